/-! words by their places, and the rows that stand on them -/
section Words
theorem G_mskL {X : Ctx} {E : Env1} {cs : Nat × Nat} {pc : Nat} {L L' : List (Option Value)} {st : List Value} {M : Mem} (bs : List Bool) (hL : msk bs L = L') (k : G X E cs pc L' st M) : G X E cs pc L st M := by
  subst hL
  exact G_msk bs k
def FU : Nat := 1000
def ix (i : Int32) : Nat := i.toNatClampNeg
theorem vi_lit {j : Int32} {n : Nat} (h : 0 ≤ j.toInt ∧ j.toInt < n) : vp_in j n := vp_in_iff.mpr h
theorem ne_lit {x v : Int32} {n : Int} (h : ¬ x = v) (hv : v.toInt = n) : x.toInt ≠ n := fun q => h (Int32.toInt_inj.mp (q.trans hv.symm))
section
variable {X : Ctx} {l0 : Launch} {E : Env1} {cs : Nat × Nat} {own : String} {cc : ByteArray} {ret : Option FieldType} {nL pc : Nat} {rm : Room} {L L' : List (Option Value)} {st : List Value} {M : Mem}
theorem G_iinc2 (h : Cx X l0 E own cc ret nL rm) {i : Nat} {n : Int} {x c : Int32} (hd : decode cc pc = .ok (.iinc i n, 3)) (hl0 : L[i]? = some (some (.int x))) (hc : Int32.ofInt n = c) (hn : i < nL) (hL : st1 i (.int (x + c)) 0 L = L') {pc' : Nat} (hp : pc + 3 = pc') (k : G X E cs pc' L' st M) : G X E cs pc L st M := G_iinc h hd hl0 (by rw [hc]) hn hL hp k
theorem G_tsIn (h : Cx X l0 E own cc ret nL rm) {dflt lo hi : Int} {offs : Array Int} {len j : Nat} {x v : Int32} {off : Int} {tgt : Nat} (hd : decode cc pc = .ok (.tableswitch dflt lo hi offs, len)) (hx : x = v) (hv : v.toInt = lo + (j : Int)) (hj : lo + (j : Int) ≤ hi) (ho : offs[j]? = some off) (ht : (pc : Int) + off = (tgt : Int)) (k : G X E cs tgt L st M) : G X E cs pc L (.int x :: st) M := by
  obtain ⟨p, l, e, R, s, m, args, below, meth, c, Q, nl⟩ := X
  obtain ⟨hx0, hb, hr, hml, hown, hts, hlk, hK, hB, rfl, rfl, rfl, hN, hZ⟩ := h
  intro H locs ls hW hM hl
  subst hx
  exact lv_tableIn hx0 hb hd (by omega) (by omega) (by rw [hv, show (lo + (j : Int) - lo).toNat = j by omega]; exact ho) ht (k H locs ls hW hM hl)
theorem G_tsOut (h : Cx X l0 E own cc ret nL rm) {dflt lo hi : Int} {offs : Array Int} {len : Nat} {x : Int32} {tgt : Nat} (hd : decode cc pc = .ok (.tableswitch dflt lo hi offs, len)) (hx : x.toInt < lo ∨ hi < x.toInt) (ht : (pc : Int) + dflt = (tgt : Int)) (k : G X E cs tgt L st M) : G X E cs pc L (.int x :: st) M := by
  obtain ⟨p, l, e, R, s, m, args, below, meth, c, Q, nl⟩ := X
  obtain ⟨hx0, hb, hr, hml, hown, hts, hlk, hK, hB, rfl, rfl, rfl, hN, hZ⟩ := h
  intro H locs ls hW hM hl
  exact lv_tableOut hx0 hb hd hx ht (k H locs ls hW hM hl)
theorem G_lk (h : Cx X l0 E own cc ret nL rm) {dflt : Int} {ps : Array (Int × Int)} {len : Nat} {x : Int32} {off : Int} {tgt : Nat} (hd : decode cc pc = .ok (.lookupswitch dflt ps, len)) (hps : (ps.toList.zip (ps.toList.drop 1)).all (fun (a, next) => a.1 < next.1) = true) (ho : Op.lookupswitch.offset ps.toList dflt x.toInt = off) (ht : (pc : Int) + off = (tgt : Int)) (k : G X E cs tgt L st M) : G X E cs pc L (.int x :: st) M := by
  obtain ⟨p, l, e, R, s, m, args, below, meth, c, Q, nl⟩ := X
  obtain ⟨hx0, hb, hr, hml, hown, hts, hlk, hK, hB, rfl, rfl, rfl, hN, hZ⟩ := h
  intro H locs ls hW hM hl
  exact lv_lookup hx0 hb hd hps ho ht (k H locs ls hW hM hl)
end
theorem kl_0 : Int64.ofNat ((0 : Fin 2) : Nat) = (0 : Int64) := by decide
theorem kl_1 : Int64.ofNat ((1 : Fin 2) : Nat) = (1 : Int64) := by decide
theorem ki_m1 : Int32.ofInt (-1) = (-1 : Int32) := by decide
theorem ki_0 : Int32.ofInt (0) = (0 : Int32) := by decide
theorem ki_1 : Int32.ofInt (1) = (1 : Int32) := by decide
theorem ki_2 : Int32.ofInt (2) = (2 : Int32) := by decide
theorem ki_3 : Int32.ofInt (3) = (3 : Int32) := by decide
theorem ki_4 : Int32.ofInt (4) = (4 : Int32) := by decide
theorem ki_5 : Int32.ofInt (5) = (5 : Int32) := by decide
theorem ki_6 : Int32.ofInt (6) = (6 : Int32) := by decide
theorem ki_7 : Int32.ofInt (7) = (7 : Int32) := by decide
theorem ki_8 : Int32.ofInt (8) = (8 : Int32) := by decide
theorem kb_m10 : (Int8.ofInt (-10)).toInt32 = (-10 : Int32) := by decide
theorem kb_m6 : (Int8.ofInt (-6)).toInt32 = (-6 : Int32) := by decide
theorem kb_m5 : (Int8.ofInt (-5)).toInt32 = (-5 : Int32) := by decide
theorem kb_m4 : (Int8.ofInt (-4)).toInt32 = (-4 : Int32) := by decide
theorem kb_m3 : (Int8.ofInt (-3)).toInt32 = (-3 : Int32) := by decide
theorem kb_m2 : (Int8.ofInt (-2)).toInt32 = (-2 : Int32) := by decide
theorem kb_6 : (Int8.ofInt (6)).toInt32 = (6 : Int32) := by decide
theorem kb_7 : (Int8.ofInt (7)).toInt32 = (7 : Int32) := by decide
theorem kb_8 : (Int8.ofInt (8)).toInt32 = (8 : Int32) := by decide
theorem kb_9 : (Int8.ofInt (9)).toInt32 = (9 : Int32) := by decide
theorem kb_10 : (Int8.ofInt (10)).toInt32 = (10 : Int32) := by decide
theorem kb_12 : (Int8.ofInt (12)).toInt32 = (12 : Int32) := by decide
theorem kb_14 : (Int8.ofInt (14)).toInt32 = (14 : Int32) := by decide
theorem kb_16 : (Int8.ofInt (16)).toInt32 = (16 : Int32) := by decide
theorem kb_18 : (Int8.ofInt (18)).toInt32 = (18 : Int32) := by decide
theorem kb_22 : (Int8.ofInt (22)).toInt32 = (22 : Int32) := by decide
theorem kb_23 : (Int8.ofInt (23)).toInt32 = (23 : Int32) := by decide
theorem kb_24 : (Int8.ofInt (24)).toInt32 = (24 : Int32) := by decide
theorem kb_25 : (Int8.ofInt (25)).toInt32 = (25 : Int32) := by decide
theorem kb_26 : (Int8.ofInt (26)).toInt32 = (26 : Int32) := by decide
theorem kb_27 : (Int8.ofInt (27)).toInt32 = (27 : Int32) := by decide
theorem kb_32 : (Int8.ofInt (32)).toInt32 = (32 : Int32) := by decide
theorem kb_33 : (Int8.ofInt (33)).toInt32 = (33 : Int32) := by decide
theorem kb_39 : (Int8.ofInt (39)).toInt32 = (39 : Int32) := by decide
theorem kb_40 : (Int8.ofInt (40)).toInt32 = (40 : Int32) := by decide
theorem kb_41 : (Int8.ofInt (41)).toInt32 = (41 : Int32) := by decide
theorem kb_48 : (Int8.ofInt (48)).toInt32 = (48 : Int32) := by decide
theorem kb_57 : (Int8.ofInt (57)).toInt32 = (57 : Int32) := by decide
theorem kb_59 : (Int8.ofInt (59)).toInt32 = (59 : Int32) := by decide
theorem kb_60 : (Int8.ofInt (60)).toInt32 = (60 : Int32) := by decide
theorem kb_63 : (Int8.ofInt (63)).toInt32 = (63 : Int32) := by decide
theorem kb_64 : (Int8.ofInt (64)).toInt32 = (64 : Int32) := by decide
theorem kb_81 : (Int8.ofInt (81)).toInt32 = (81 : Int32) := by decide
theorem kb_97 : (Int8.ofInt (97)).toInt32 = (97 : Int32) := by decide
theorem kb_99 : (Int8.ofInt (99)).toInt32 = (99 : Int32) := by decide
theorem kb_100 : (Int8.ofInt (100)).toInt32 = (100 : Int32) := by decide
theorem kb_101 : (Int8.ofInt (101)).toInt32 = (101 : Int32) := by decide
theorem kb_104 : (Int8.ofInt (104)).toInt32 = (104 : Int32) := by decide
theorem kb_105 : (Int8.ofInt (105)).toInt32 = (105 : Int32) := by decide
theorem kb_107 : (Int8.ofInt (107)).toInt32 = (107 : Int32) := by decide
theorem kb_109 : (Int8.ofInt (109)).toInt32 = (109 : Int32) := by decide
theorem kb_110 : (Int8.ofInt (110)).toInt32 = (110 : Int32) := by decide
theorem kb_111 : (Int8.ofInt (111)).toInt32 = (111 : Int32) := by decide
theorem kb_112 : (Int8.ofInt (112)).toInt32 = (112 : Int32) := by decide
theorem kb_114 : (Int8.ofInt (114)).toInt32 = (114 : Int32) := by decide
theorem kb_115 : (Int8.ofInt (115)).toInt32 = (115 : Int32) := by decide
theorem kb_116 : (Int8.ofInt (116)).toInt32 = (116 : Int32) := by decide
theorem kb_117 : (Int8.ofInt (117)).toInt32 = (117 : Int32) := by decide
theorem kb_119 : (Int8.ofInt (119)).toInt32 = (119 : Int32) := by decide
theorem kb_122 : (Int8.ofInt (122)).toInt32 = (122 : Int32) := by decide
theorem kb_127 : (Int8.ofInt (127)).toInt32 = (127 : Int32) := by decide
theorem ks_149 : (Int16.ofInt (149)).toInt32 = (149 : Int32) := by decide
theorem ks_150 : (Int16.ofInt (150)).toInt32 = (150 : Int32) := by decide
theorem ks_154 : (Int16.ofInt (154)).toInt32 = (154 : Int32) := by decide
theorem ks_164 : (Int16.ofInt (164)).toInt32 = (164 : Int32) := by decide
theorem ks_176 : (Int16.ofInt (176)).toInt32 = (176 : Int32) := by decide
theorem ks_240 : (Int16.ofInt (240)).toInt32 = (240 : Int32) := by decide
theorem ks_255 : (Int16.ofInt (255)).toInt32 = (255 : Int32) := by decide
theorem ks_256 : (Int16.ofInt (256)).toInt32 = (256 : Int32) := by decide
theorem ks_300 : (Int16.ofInt (300)).toInt32 = (300 : Int32) := by decide
theorem ks_9999 : (Int16.ofInt (9999)).toInt32 = (9999 : Int32) := by decide
theorem w_0_1 {E : Env1} (hE : WF E) {q : Nat} (h : isK E q 0) : fA E q 1 9 6 := (hE.1 q h).1
theorem w_0_2 {E : Env1} (hE : WF E) {q : Nat} (h : isK E q 0) : fA E q 2 9 6 := (hE.1 q h).2.1
theorem w_0_3 {E : Env1} (hE : WF E) {q : Nat} (h : isK E q 0) : fK E q 3 4 := (hE.1 q h).2.2.1
theorem w_0_4 {E : Env1} (hE : WF E) {q : Nat} (h : isK E q 0) : fA E q 4 13 8 := (hE.1 q h).2.2.2.1
theorem w_0_6 {E : Env1} (hE : WF E) {q : Nat} (h : isK E q 0) : fK E q 6 3 := (hE.1 q h).2.2.2.2.1
theorem w_0_7 {E : Env1} (hE : WF E) {q : Nat} (h : isK E q 0) : fK E q 7 3 := (hE.1 q h).2.2.2.2.2.1
theorem w_0_8 {E : Env1} (hE : WF E) {q : Nat} (h : isK E q 0) : fK E q 8 3 := (hE.1 q h).2.2.2.2.2.2.1
theorem w_0_9 {E : Env1} (hE : WF E) {q : Nat} (h : isK E q 0) : fK E q 9 5 := (hE.1 q h).2.2.2.2.2.2.2.1
theorem w_0_10 {E : Env1} (hE : WF E) {q : Nat} (h : isK E q 0) : fK E q 10 1 := (hE.1 q h).2.2.2.2.2.2.2.2
theorem w_2_0 {E : Env1} (hE : WF E) {q : Nat} (h : isK E q 2) : fA E q 0 9 40 := (hE.2.1 q h).1
theorem w_2_1 {E : Env1} (hE : WF E) {q : Nat} (h : isK E q 2) : fA E q 1 9 256 := (hE.2.1 q h).2.1
theorem w_2_2 {E : Env1} (hE : WF E) {q : Nat} (h : isK E q 2) : fA E q 2 9 256 := (hE.2.1 q h).2.2
theorem w_3_1 {E : Env1} (hE : WF E) {q : Nat} (h : isK E q 3) : fA E q 1 9 24 := (hE.2.2.1 q h)
theorem w_4_0 {E : Env1} (hE : WF E) {q : Nat} (h : isK E q 4) : fA E q 0 9 8 := (hE.2.2.2.1 q h).1
theorem w_4_1 {E : Env1} (hE : WF E) {q : Nat} (h : isK E q 4) : fA E q 1 9 6 := (hE.2.2.2.1 q h).2.1
theorem w_4_2 {E : Env1} (hE : WF E) {q : Nat} (h : isK E q 4) : fA E q 2 9 6 := (hE.2.2.2.1 q h).2.2
theorem w_6_1 {E : Env1} (hE : WF E) {q : Nat} (h : isK E q 6) : fA E q 1 9 150 := (hE.2.2.2.2.1 q h).1
theorem w_6_8 {E : Env1} (hE : WF E) {q : Nat} (h : isK E q 6) : fA E q 8 9 8 := (hE.2.2.2.2.1 q h).2
theorem w_7_0 {E : Env1} (hE : WF E) {q : Nat} (h : isK E q 7) : fK E q 0 0 := (hE.2.2.2.2.2.1 q h).1
theorem w_7_1 {E : Env1} (hE : WF E) {q : Nat} (h : isK E q 7) : fK E q 1 0 := (hE.2.2.2.2.2.1 q h).2.1
theorem w_7_2 {E : Env1} (hE : WF E) {q : Nat} (h : isK E q 7) : fA E q 2 12 2 := (hE.2.2.2.2.2.1 q h).2.2.1
theorem w_7_3 {E : Env1} (hE : WF E) {q : Nat} (h : isK E q 7) : fA E q 3 11 2 := (hE.2.2.2.2.2.1 q h).2.2.2.1
theorem w_7_4 {E : Env1} (hE : WF E) {q : Nat} (h : isK E q 7) : fK E q 4 6 := (hE.2.2.2.2.2.1 q h).2.2.2.2.1
theorem w_7_5 {E : Env1} (hE : WF E) {q : Nat} (h : isK E q 7) : fK E q 5 2 := (hE.2.2.2.2.2.1 q h).2.2.2.2.2
theorem w_8_0 {E : Env1} (hE : WF E) {q : Nat} (h : isK E q 8) : fA E q 0 9 3 := (hE.2.2.2.2.2.2.1 q h).1
theorem w_8_7 {E : Env1} (hE : WF E) {q : Nat} (h : isK E q 8) : fA E q 7 9 6 := (hE.2.2.2.2.2.2.1 q h).2.1
theorem w_8_8 {E : Env1} (hE : WF E) {q : Nat} (h : isK E q 8) : fA E q 8 9 6 := (hE.2.2.2.2.2.2.1 q h).2.2.1
theorem w_8_9 {E : Env1} (hE : WF E) {q : Nat} (h : isK E q 8) : fA E q 9 9 6 := (hE.2.2.2.2.2.2.1 q h).2.2.2.1
theorem w_8_10 {E : Env1} (hE : WF E) {q : Nat} (h : isK E q 8) : fA E q 10 9 6 := (hE.2.2.2.2.2.2.1 q h).2.2.2.2.1
theorem w_8_11 {E : Env1} (hE : WF E) {q : Nat} (h : isK E q 8) : fA E q 11 9 8 := (hE.2.2.2.2.2.2.1 q h).2.2.2.2.2.1
theorem w_8_12 {E : Env1} (hE : WF E) {q : Nat} (h : isK E q 8) : fA E q 12 9 18 := (hE.2.2.2.2.2.2.1 q h).2.2.2.2.2.2.1
theorem w_8_13 {E : Env1} (hE : WF E) {q : Nat} (h : isK E q 8) : fA E q 13 9 24 := (hE.2.2.2.2.2.2.1 q h).2.2.2.2.2.2.2.1
theorem w_8_14 {E : Env1} (hE : WF E) {q : Nat} (h : isK E q 8) : fA E q 14 9 24 := (hE.2.2.2.2.2.2.1 q h).2.2.2.2.2.2.2.2.1
theorem w_8_15 {E : Env1} (hE : WF E) {q : Nat} (h : isK E q 8) : fA E q 15 9 150 := (hE.2.2.2.2.2.2.1 q h).2.2.2.2.2.2.2.2.2.1
theorem w_8_19 {E : Env1} (hE : WF E) {q : Nat} (h : isK E q 8) : fA E q 19 9 300 := (hE.2.2.2.2.2.2.1 q h).2.2.2.2.2.2.2.2.2.2.1
theorem w_8_20 {E : Env1} (hE : WF E) {q : Nat} (h : isK E q 8) : fA E q 20 9 176 := (hE.2.2.2.2.2.2.1 q h).2.2.2.2.2.2.2.2.2.2.2.1
theorem w_8_22 {E : Env1} (hE : WF E) {q : Nat} (h : isK E q 8) : fA E q 22 9 22 := (hE.2.2.2.2.2.2.1 q h).2.2.2.2.2.2.2.2.2.2.2.2.1
theorem w_8_23 {E : Env1} (hE : WF E) {q : Nat} (h : isK E q 8) : fA E q 23 10 164 := (hE.2.2.2.2.2.2.1 q h).2.2.2.2.2.2.2.2.2.2.2.2.2.1
theorem w_8_24 {E : Env1} (hE : WF E) {q : Nat} (h : isK E q 8) : fA E q 24 9 24 := (hE.2.2.2.2.2.2.1 q h).2.2.2.2.2.2.2.2.2.2.2.2.2.2.1
theorem w_8_27 {E : Env1} (hE : WF E) {q : Nat} (h : isK E q 8) : fA E q 27 9 600 := (hE.2.2.2.2.2.2.1 q h).2.2.2.2.2.2.2.2.2.2.2.2.2.2.2.1
theorem w_8_28 {E : Env1} (hE : WF E) {q : Nat} (h : isK E q 8) : fA E q 28 9 2 := (hE.2.2.2.2.2.2.1 q h).2.2.2.2.2.2.2.2.2.2.2.2.2.2.2.2
theorem q0 : Cond.selects RX8 yX8_refuse yX8_refuse ∈ lw_g := lwg (List.mem_of_getElem? (i := 0) (by decide +kernel)) rfl
theorem q1 : Cond.selects RX7 yX7_nextToken yX7_nextToken ∈ lw_g := lwg (List.mem_of_getElem? (i := 1) (by decide +kernel)) rfl
theorem q2 : Cond.selects RX7 yX7_behindRun yX7_behindRun ∈ lw_g := lwg (List.mem_of_getElem? (i := 2) (by decide +kernel)) rfl
theorem q3 : Cond.selects RX7 yX7_byteAt yX7_byteAt ∈ lw_g := lwg (List.mem_of_getElem? (i := 3) (by decide +kernel)) rfl
theorem q4 : Cond.selects RX7 yX7_wordRead yX7_wordRead ∈ lw_g := lwg (List.mem_of_getElem? (i := 4) (by decide +kernel)) rfl
theorem q5 : Cond.selects RX7 yX7_reads yX7_reads ∈ lw_g := lwg (List.mem_of_getElem? (i := 5) (by decide +kernel)) rfl
theorem q6 : Cond.selects RX7 yX7_numberRead yX7_numberRead ∈ lw_g := lwg (List.mem_of_getElem? (i := 6) (by decide +kernel)) rfl
theorem q7 : Cond.selects RX7 yX7_takes yX7_takes ∈ lw_g := lwg (List.mem_of_getElem? (i := 7) (by decide +kernel)) rfl
theorem q8 : Cond.selects RX7 yX7_begins yX7_begins ∈ lw_g := lwg (List.mem_of_getElem? (i := 8) (by decide +kernel)) rfl
theorem q9 : Cond.selects RX7 yX7_takesNumber yX7_takesNumber ∈ lw_g := lwg (List.mem_of_getElem? (i := 9) (by decide +kernel)) rfl
theorem q10 : Cond.selects RX7 yX7_lowest yX7_lowest ∈ lw_g := lwg (List.mem_of_getElem? (i := 10) (by decide +kernel)) rfl
theorem q11 : Cond.selects RX7 yX7_highest yX7_highest ∈ lw_g := lwg (List.mem_of_getElem? (i := 11) (by decide +kernel)) rfl
theorem q12 : Cond.selects RX7 yX7_settle yX7_settle ∈ lw_g := lwg (List.mem_of_getElem? (i := 12) (by decide +kernel)) rfl
theorem q13 : Cond.selects RX7 yX7_settleKinds yX7_settleKinds ∈ lw_g := lwg (List.mem_of_getElem? (i := 13) (by decide +kernel)) rfl
theorem q14 : Cond.selects RX0 yX0_dropOldest yX0_dropOldest ∈ lw_g := lwg (List.mem_of_getElem? (i := 14) (by decide +kernel)) rfl
theorem q15 : Cond.selects RX8 yX8_refusePlace yX8_refusePlace ∈ lw_g := lwg (List.mem_of_getElem? (i := 15) (by decide +kernel)) rfl
theorem q16 : Cond.selects RX5 yX5_bearsAbove yX5_bearsAbove ∈ lw_g := lwg (List.mem_of_getElem? (i := 16) (by decide +kernel)) rfl
theorem q17 : Cond.selects RX3 yX3_soonestOf yX3_soonestOf ∈ lw_g := lwg (List.mem_of_getElem? (i := 17) (by decide +kernel)) rfl
theorem q18 : Cond.selects RX3 yX3_firstMinute yX3_firstMinute ∈ lw_g := lwg (List.mem_of_getElem? (i := 18) (by decide +kernel)) rfl
theorem q19 : Cond.selects RX3 yX3_latestOf yX3_latestOf ∈ lw_g := lwg (List.mem_of_getElem? (i := 19) (by decide +kernel)) rfl
theorem q20 : Cond.selects RX3 yX3_lastMinute yX3_lastMinute ∈ lw_g := lwg (List.mem_of_getElem? (i := 20) (by decide +kernel)) rfl
theorem q21 : Cond.selects RX3 yX3_firstDeed yX3_firstDeed ∈ lw_g := lwg (List.mem_of_getElem? (i := 21) (by decide +kernel)) rfl
theorem q22 : Cond.selects RX3 yX3_leavesTime yX3_leavesTime ∈ lw_g := lwg (List.mem_of_getElem? (i := 22) (by decide +kernel)) rfl
theorem q23 : Cond.selects RX8 yX8_add yX8_add ∈ lw_g := lwg (List.mem_of_getElem? (i := 23) (by decide +kernel)) rfl
theorem q24 : Cond.selects RX0 yX0_hostGets yX0_hostGets ∈ lw_g := lwg (List.mem_of_getElem? (i := 24) (by decide +kernel)) rfl
theorem q25 : Cond.selects RX8 yX8_keepFraction yX8_keepFraction ∈ lw_g := lwg (List.mem_of_getElem? (i := 25) (by decide +kernel)) rfl
theorem q26 : Cond.selects RX8 yX8_counted yX8_counted ∈ lw_g := lwg (List.mem_of_getElem? (i := 26) (by decide +kernel)) rfl
theorem q27 : Cond.selects RX9 yX9_begin yX9_begin ∈ lw_g := lwg (List.mem_of_getElem? (i := 27) (by decide +kernel)) rfl
theorem q28 : Cond.selects RX9 yX9_bad yX9_bad ∈ lw_g := lwg (List.mem_of_getElem? (i := 28) (by decide +kernel)) rfl
theorem q29 : Cond.selects RX9 yX9_full yX9_full ∈ lw_g := lwg (List.mem_of_getElem? (i := 29) (by decide +kernel)) rfl
theorem q30 : Cond.selects RX9 yX9_addOne yX9_addOne ∈ lw_g := lwg (List.mem_of_getElem? (i := 30) (by decide +kernel)) rfl
theorem q31 : Cond.selects RX9 yX9_layAll yX9_layAll ∈ lw_g := lwg (List.mem_of_getElem? (i := 31) (by decide +kernel)) rfl
theorem q32 : Cond.selects RX9 yX9_lays yX9_lays ∈ lw_g := lwg (List.mem_of_getElem? (i := 32) (by decide +kernel)) rfl
theorem q33 : Cond.selects RX9 yX9_readsHouse yX9_readsHouse ∈ lw_g := lwg (List.mem_of_getElem? (i := 33) (by decide +kernel)) rfl
theorem q34 : Cond.selects RX9 yX9_readsFirst yX9_readsFirst ∈ lw_g := lwg (List.mem_of_getElem? (i := 34) (by decide +kernel)) rfl
theorem q35 : Cond.selects RX9 yX9_skip yX9_skip ∈ lw_g := lwg (List.mem_of_getElem? (i := 35) (by decide +kernel)) rfl
theorem q36 : Cond.selects RX9 yX9_here yX9_here ∈ lw_g := lwg (List.mem_of_getElem? (i := 36) (by decide +kernel)) rfl
theorem q37 : Cond.selects RX9 yX9_wordHere yX9_wordHere ∈ lw_g := lwg (List.mem_of_getElem? (i := 37) (by decide +kernel)) rfl
theorem q38 : Cond.selects RX9 yX9_wordSize yX9_wordSize ∈ lw_g := lwg (List.mem_of_getElem? (i := 38) (by decide +kernel)) rfl
theorem q39 : Cond.selects RX9 yX9_letter yX9_letter ∈ lw_g := lwg (List.mem_of_getElem? (i := 39) (by decide +kernel)) rfl
theorem q40 : Cond.selects RX9 yX9_number yX9_number ∈ lw_g := lwg (List.mem_of_getElem? (i := 40) (by decide +kernel)) rfl
theorem q41 : Cond.selects RX9 yX9_ends yX9_ends ∈ lw_g := lwg (List.mem_of_getElem? (i := 41) (by decide +kernel)) rfl
theorem q42 : Cond.selects RX9 yX9_readsItem yX9_readsItem ∈ lw_g := lwg (List.mem_of_getElem? (i := 42) (by decide +kernel)) rfl
theorem q43 : Cond.selects RX9 yX9_readsOne yX9_readsOne ∈ lw_g := lwg (List.mem_of_getElem? (i := 43) (by decide +kernel)) rfl
theorem q44 : Cond.selects RX9 yX9_readsCarpet yX9_readsCarpet ∈ lw_g := lwg (List.mem_of_getElem? (i := 44) (by decide +kernel)) rfl
theorem q45 : Cond.selects RX9 yX9_readsMinutes yX9_readsMinutes ∈ lw_g := lwg (List.mem_of_getElem? (i := 45) (by decide +kernel)) rfl
theorem q46 : Cond.selects RX9 yX9_goesOn yX9_goesOn ∈ lw_g := lwg (List.mem_of_getElem? (i := 46) (by decide +kernel)) rfl
theorem q47 : Cond.selects RX9 yX9_passes yX9_passes ∈ lw_g := lwg (List.mem_of_getElem? (i := 47) (by decide +kernel)) rfl
theorem q48 : Cond.selects RX9 yX9_readsWhere yX9_readsWhere ∈ lw_g := lwg (List.mem_of_getElem? (i := 48) (by decide +kernel)) rfl
theorem q49 : Cond.selects RX9 yX9_takeAll yX9_takeAll ∈ lw_g := lwg (List.mem_of_getElem? (i := 49) (by decide +kernel)) rfl
theorem q50 : Cond.selects RX9 yX9_takes yX9_takes ∈ lw_g := lwg (List.mem_of_getElem? (i := 50) (by decide +kernel)) rfl
theorem q51 : Cond.selects RX9 yX9_isOne yX9_isOne ∈ lw_g := lwg (List.mem_of_getElem? (i := 51) (by decide +kernel)) rfl
theorem q52 : Cond.selects RX9 yX9_no yX9_no ∈ lw_g := lwg (List.mem_of_getElem? (i := 52) (by decide +kernel)) rfl
theorem q53 : Cond.selects RX9 yX9_notes yX9_notes ∈ lw_g := lwg (List.mem_of_getElem? (i := 53) (by decide +kernel)) rfl
theorem q54 : Cond.selects RX9 yX9_learns yX9_learns ∈ lw_g := lwg (List.mem_of_getElem? (i := 54) (by decide +kernel)) rfl
theorem q55 : Cond.selects RX9 yX9_dayMinute yX9_dayMinute ∈ lw_g := lwg (List.mem_of_getElem? (i := 55) (by decide +kernel)) rfl
theorem q56 : Cond.selects RX9 yX9_mayMeet yX9_mayMeet ∈ lw_g := lwg (List.mem_of_getElem? (i := 56) (by decide +kernel)) rfl
theorem q57 : Cond.selects RX9 yX9_wordFor yX9_wordFor ∈ lw_g := lwg (List.mem_of_getElem? (i := 57) (by decide +kernel)) rfl
theorem q58 : Cond.selects RX9 yX9_worth yX9_worth ∈ lw_g := lwg (List.mem_of_getElem? (i := 58) (by decide +kernel)) rfl
theorem q59 : Cond.selects RX9 yX9_wants yX9_wants ∈ lw_g := lwg (List.mem_of_getElem? (i := 59) (by decide +kernel)) rfl
theorem q60 : Cond.selects RX9 yX9_tenBad yX9_tenBad ∈ lw_g := lwg (List.mem_of_getElem? (i := 60) (by decide +kernel)) rfl
theorem q61 : Cond.selects RX9 yX9_knownAll yX9_knownAll ∈ lw_g := lwg (List.mem_of_getElem? (i := 61) (by decide +kernel)) rfl
theorem q62 : Cond.selects RX9 yX9_whoKnows yX9_whoKnows ∈ lw_g := lwg (List.mem_of_getElem? (i := 62) (by decide +kernel)) rfl
theorem q63 : Cond.selects RX9 yX9_setMay yX9_setMay ∈ lw_g := lwg (List.mem_of_getElem? (i := 63) (by decide +kernel)) rfl
theorem q64 : Cond.selects RX9 yX9_isMay yX9_isMay ∈ lw_g := lwg (List.mem_of_getElem? (i := 64) (by decide +kernel)) rfl
theorem q65 : Cond.selects RX9 yX9_does yX9_does ∈ lw_g := lwg (List.mem_of_getElem? (i := 65) (by decide +kernel)) rfl
theorem q66 : Cond.selects RX9 yX9_mayKnow yX9_mayKnow ∈ lw_g := lwg (List.mem_of_getElem? (i := 66) (by decide +kernel)) rfl
theorem q67 : Cond.selects RX9 yX9_stepKinds yX9_stepKinds ∈ lw_g := lwg (List.mem_of_getElem? (i := 67) (by decide +kernel)) rfl
theorem q68 : Cond.selects RX9 yX9_peopleKinds yX9_peopleKinds ∈ lw_g := lwg (List.mem_of_getElem? (i := 68) (by decide +kernel)) rfl
theorem q69 : Cond.selects RX9 yX9_gets yX9_gets ∈ lw_g := lwg (List.mem_of_getElem? (i := 69) (by decide +kernel)) rfl
theorem q70 : Cond.selects RX9 yX9_lay yX9_lay ∈ lw_g := lwg (List.mem_of_getElem? (i := 70) (by decide +kernel)) rfl
theorem q71 : Cond.selects RX9 yX9_countOf yX9_countOf ∈ lw_g := lwg (List.mem_of_getElem? (i := 71) (by decide +kernel)) rfl
theorem q72 : Cond.selects RX9 yX9_topMany yX9_topMany ∈ lw_g := lwg (List.mem_of_getElem? (i := 72) (by decide +kernel)) rfl
theorem q73 : Cond.selects RX9 yX9_mix yX9_mix ∈ lw_g := lwg (List.mem_of_getElem? (i := 73) (by decide +kernel)) rfl
theorem q75 : Cond.initialized RX8 ∈ lw_g := lwg (List.mem_of_getElem? (i := 75) (by decide +kernel)) rfl
theorem q76 : Cond.initialized RX0 ∈ lw_g := lwg (List.mem_of_getElem? (i := 76) (by decide +kernel)) rfl
theorem q77 : Cond.initialized RX5 ∈ lw_g := lwg (List.mem_of_getElem? (i := 77) (by decide +kernel)) rfl
theorem q78 : Cond.initialized RX4 ∈ lw_g := lwg (List.mem_of_getElem? (i := 78) (by decide +kernel)) rfl
theorem q79 : Cond.initialized RX1 ∈ lw_g := lwg (List.mem_of_getElem? (i := 79) (by decide +kernel)) rfl
theorem q80 : Cond.initialized RX6 ∈ lw_g := lwg (List.mem_of_getElem? (i := 80) (by decide +kernel)) rfl
theorem q81 : Cond.initialized RX2 ∈ lw_g := lwg (List.mem_of_getElem? (i := 81) (by decide +kernel)) rfl
theorem q82 : Cond.initialized RX7 ∈ lw_g := lwg (List.mem_of_getElem? (i := 82) (by decide +kernel)) rfl
theorem q83 : Cond.initialized RX3 ∈ lw_g := lwg (List.mem_of_getElem? (i := 83) (by decide +kernel)) rfl
theorem q84 : Cond.initialized RX9 ∈ lw_g := lwg (List.mem_of_getElem? (i := 84) (by decide +kernel)) rfl
theorem q90 : Cond.initialized RJ6 ∈ lw_g := lwg (List.mem_of_getElem? (i := 90) (by decide +kernel)) rfl
theorem q112 : Cond.instanceMethod yX5_reset ∈ lw_g := lwg (List.mem_of_getElem? (i := 112) (by decide +kernel)) rfl
theorem q113 : Cond.selects RX5 yX5_reset yX5_reset ∈ lw_g := lwg (List.mem_of_getElem? (i := 113) (by decide +kernel)) rfl
theorem q114 : Cond.code yX5_reset cX5_reset 2 none ∈ lw_g := lwg (List.mem_of_getElem? (i := 114) (by decide +kernel)) rfl
theorem q115 : Cond.fieldLink RX5 9 RX5 "stepKind" "[I" ∈ lw_g := lwg (List.mem_of_getElem? (i := 115) (by decide +kernel)) rfl
theorem q116 : Cond.fieldLink RX0 95 RX5 "stepKind" "[I" ∈ lw_g := lwg (List.mem_of_getElem? (i := 116) (by decide +kernel)) rfl
theorem q117 : Cond.fieldLink RX7 110 RX5 "stepKind" "[I" ∈ lw_g := lwg (List.mem_of_getElem? (i := 117) (by decide +kernel)) rfl
theorem q118 : Cond.fieldLink RX8 166 RX5 "stepKind" "[I" ∈ lw_g := lwg (List.mem_of_getElem? (i := 118) (by decide +kernel)) rfl
theorem q119 : Cond.fieldLink RX5 15 RX5 "knows" "[I" ∈ lw_g := lwg (List.mem_of_getElem? (i := 119) (by decide +kernel)) rfl
theorem q120 : Cond.fieldLink RX8 163 RX5 "knows" "[I" ∈ lw_g := lwg (List.mem_of_getElem? (i := 120) (by decide +kernel)) rfl
theorem q121 : Cond.fieldLink RX0 134 RX5 "knows" "[I" ∈ lw_g := lwg (List.mem_of_getElem? (i := 121) (by decide +kernel)) rfl
theorem q122 : Cond.fieldLink RX5 18 RX5 "where" "[I" ∈ lw_g := lwg (List.mem_of_getElem? (i := 122) (by decide +kernel)) rfl
theorem q123 : Cond.fieldLink RX8 121 RX5 "where" "[I" ∈ lw_g := lwg (List.mem_of_getElem? (i := 123) (by decide +kernel)) rfl
theorem q124 : Cond.fieldLink RX0 88 RX5 "where" "[I" ∈ lw_g := lwg (List.mem_of_getElem? (i := 124) (by decide +kernel)) rfl
theorem q125 : Cond.fieldLink RX5 26 RX5 "carpets" "I" ∈ lw_g := lwg (List.mem_of_getElem? (i := 125) (by decide +kernel)) rfl
theorem q126 : Cond.fieldLink RX8 137 RX5 "carpets" "I" ∈ lw_g := lwg (List.mem_of_getElem? (i := 126) (by decide +kernel)) rfl
theorem q127 : Cond.fieldLink RX7 100 RX5 "carpets" "I" ∈ lw_g := lwg (List.mem_of_getElem? (i := 127) (by decide +kernel)) rfl
theorem q128 : Cond.fieldLink RX0 149 RX5 "carpets" "I" ∈ lw_g := lwg (List.mem_of_getElem? (i := 128) (by decide +kernel)) rfl
theorem q129 : Cond.fieldLink RX3 37 RX5 "minute" "I" ∈ lw_g := lwg (List.mem_of_getElem? (i := 129) (by decide +kernel)) rfl
theorem q130 : Cond.fieldLink RX5 30 RX5 "minute" "I" ∈ lw_g := lwg (List.mem_of_getElem? (i := 130) (by decide +kernel)) rfl
theorem q131 : Cond.fieldLink RX8 108 RX5 "minute" "I" ∈ lw_g := lwg (List.mem_of_getElem? (i := 131) (by decide +kernel)) rfl
theorem q132 : Cond.fieldLink RX0 120 RX5 "minute" "I" ∈ lw_g := lwg (List.mem_of_getElem? (i := 132) (by decide +kernel)) rfl
theorem q152 : Cond.fieldLink RX4 9 RX4 "size" "I" ∈ lw_g := lwg (List.mem_of_getElem? (i := 152) (by decide +kernel)) rfl
theorem q153 : Cond.fieldLink RX1 23 RX4 "size" "I" ∈ lw_g := lwg (List.mem_of_getElem? (i := 153) (by decide +kernel)) rfl
theorem q154 : Cond.fieldLink RX0 137 RX4 "size" "I" ∈ lw_g := lwg (List.mem_of_getElem? (i := 154) (by decide +kernel)) rfl
theorem q155 : Cond.fieldLink RX8 284 RX4 "size" "I" ∈ lw_g := lwg (List.mem_of_getElem? (i := 155) (by decide +kernel)) rfl
theorem q156 : Cond.fieldLink RX4 15 RX4 "cells" "[I" ∈ lw_g := lwg (List.mem_of_getElem? (i := 156) (by decide +kernel)) rfl
theorem q179 : Cond.fieldLink RX0 9 RX0 "people" "I" ∈ lw_g := lwg (List.mem_of_getElem? (i := 179) (by decide +kernel)) rfl
theorem q180 : Cond.fieldLink RX8 58 RX0 "people" "I" ∈ lw_g := lwg (List.mem_of_getElem? (i := 180) (by decide +kernel)) rfl
theorem q181 : Cond.fieldLink RX7 73 RX0 "people" "I" ∈ lw_g := lwg (List.mem_of_getElem? (i := 181) (by decide +kernel)) rfl
theorem q182 : Cond.fieldLink RX0 15 RX0 "kind" "[I" ∈ lw_g := lwg (List.mem_of_getElem? (i := 182) (by decide +kernel)) rfl
theorem q183 : Cond.fieldLink RX8 157 RX0 "kind" "[I" ∈ lw_g := lwg (List.mem_of_getElem? (i := 183) (by decide +kernel)) rfl
theorem q184 : Cond.fieldLink RX0 19 RX0 "weight" "[I" ∈ lw_g := lwg (List.mem_of_getElem? (i := 184) (by decide +kernel)) rfl
theorem q185 : Cond.fieldLink RX8 160 RX0 "weight" "[I" ∈ lw_g := lwg (List.mem_of_getElem? (i := 185) (by decide +kernel)) rfl
theorem q186 : Cond.fieldLink RX0 25 RX0 "stand" "LStairManners$Stand;" ∈ lw_g := lwg (List.mem_of_getElem? (i := 186) (by decide +kernel)) rfl
theorem q187 : Cond.fieldLink RX3 33 RX0 "stand" "LStairManners$Stand;" ∈ lw_g := lwg (List.mem_of_getElem? (i := 187) (by decide +kernel)) rfl
theorem q188 : Cond.fieldLink RX8 98 RX0 "stand" "LStairManners$Stand;" ∈ lw_g := lwg (List.mem_of_getElem? (i := 188) (by decide +kernel)) rfl
theorem q189 : Cond.fieldLink RX7 83 RX0 "stand" "LStairManners$Stand;" ∈ lw_g := lwg (List.mem_of_getElem? (i := 189) (by decide +kernel)) rfl
theorem q190 : Cond.fieldLink RX0 29 RX0 "past" "[LStairManners$Stand;" ∈ lw_g := lwg (List.mem_of_getElem? (i := 190) (by decide +kernel)) rfl
theorem q191 : Cond.fieldLink RX0 33 RX0 "pastCount" "I" ∈ lw_g := lwg (List.mem_of_getElem? (i := 191) (by decide +kernel)) rfl
theorem q192 : Cond.fieldLink RX8 151 RX0 "pastCount" "I" ∈ lw_g := lwg (List.mem_of_getElem? (i := 192) (by decide +kernel)) rfl
theorem q193 : Cond.fieldLink RX0 39 RX0 "sights" "LStairManners$Rows;" ∈ lw_g := lwg (List.mem_of_getElem? (i := 193) (by decide +kernel)) rfl
theorem q194 : Cond.fieldLink RX8 200 RX0 "sights" "LStairManners$Rows;" ∈ lw_g := lwg (List.mem_of_getElem? (i := 194) (by decide +kernel)) rfl
theorem q195 : Cond.fieldLink RX0 43 RX0 "notes" "LStairManners$Rows;" ∈ lw_g := lwg (List.mem_of_getElem? (i := 195) (by decide +kernel)) rfl
theorem q196 : Cond.fieldLink RX8 211 RX0 "notes" "LStairManners$Rows;" ∈ lw_g := lwg (List.mem_of_getElem? (i := 196) (by decide +kernel)) rfl
theorem q197 : Cond.fieldLink RX0 46 RX0 "marks" "LStairManners$Rows;" ∈ lw_g := lwg (List.mem_of_getElem? (i := 197) (by decide +kernel)) rfl
theorem q198 : Cond.fieldLink RX8 214 RX0 "marks" "LStairManners$Rows;" ∈ lw_g := lwg (List.mem_of_getElem? (i := 198) (by decide +kernel)) rfl
theorem q199 : Cond.fieldLink RX0 52 RX0 "stepKinds" "LStairManners$StepKinds;" ∈ lw_g := lwg (List.mem_of_getElem? (i := 199) (by decide +kernel)) rfl
theorem q200 : Cond.fieldLink RX8 222 RX0 "stepKinds" "LStairManners$StepKinds;" ∈ lw_g := lwg (List.mem_of_getElem? (i := 200) (by decide +kernel)) rfl
theorem q201 : Cond.fieldLink RX0 59 RX0 "personKinds" "LStairManners$PersonKinds;" ∈ lw_g := lwg (List.mem_of_getElem? (i := 201) (by decide +kernel)) rfl
theorem q202 : Cond.fieldLink RX8 235 RX0 "personKinds" "LStairManners$PersonKinds;" ∈ lw_g := lwg (List.mem_of_getElem? (i := 202) (by decide +kernel)) rfl
theorem q233 : Cond.fieldLink RX7 9 RX7 "size" "I" ∈ lw_g := lwg (List.mem_of_getElem? (i := 233) (by decide +kernel)) rfl
theorem q234 : Cond.fieldLink RX8 76 RX7 "size" "I" ∈ lw_g := lwg (List.mem_of_getElem? (i := 234) (by decide +kernel)) rfl
theorem q235 : Cond.fieldLink RX7 15 RX7 "bytes" "[I" ∈ lw_g := lwg (List.mem_of_getElem? (i := 235) (by decide +kernel)) rfl
theorem q236 : Cond.fieldLink RX7 19 RX7 "start" "I" ∈ lw_g := lwg (List.mem_of_getElem? (i := 236) (by decide +kernel)) rfl
theorem q237 : Cond.fieldLink RX7 22 RX7 "behind" "I" ∈ lw_g := lwg (List.mem_of_getElem? (i := 237) (by decide +kernel)) rfl
theorem q238 : Cond.fieldLink RX7 25 RX7 "sort" "I" ∈ lw_g := lwg (List.mem_of_getElem? (i := 238) (by decide +kernel)) rfl
theorem q239 : Cond.fieldLink RX7 28 RX7 "value" "I" ∈ lw_g := lwg (List.mem_of_getElem? (i := 239) (by decide +kernel)) rfl
theorem q240 : Cond.fieldLink RX7 31 RX7 "word" "I" ∈ lw_g := lwg (List.mem_of_getElem? (i := 240) (by decide +kernel)) rfl
theorem q241 : Cond.fieldLink RX7 34 RX7 "given" "I" ∈ lw_g := lwg (List.mem_of_getElem? (i := 241) (by decide +kernel)) rfl
theorem q242 : Cond.fieldLink RX7 37 RX7 "numbers" "[I" ∈ lw_g := lwg (List.mem_of_getElem? (i := 242) (by decide +kernel)) rfl
theorem q243 : Cond.fieldLink RX7 40 RX7 "items" "I" ∈ lw_g := lwg (List.mem_of_getElem? (i := 243) (by decide +kernel)) rfl
theorem q272 : Cond.fieldLink RX3 11 RX3 "meetable" "[I" ∈ lw_g := lwg (List.mem_of_getElem? (i := 272) (by decide +kernel)) rfl
theorem q273 : Cond.fieldLink RX3 15 RX3 "soonest" "[I" ∈ lw_g := lwg (List.mem_of_getElem? (i := 273) (by decide +kernel)) rfl
theorem q274 : Cond.fieldLink RX3 18 RX3 "latest" "[I" ∈ lw_g := lwg (List.mem_of_getElem? (i := 274) (by decide +kernel)) rfl
theorem q275 : Cond.fieldLink RX3 21 RX3 "lacking" "I" ∈ lw_g := lwg (List.mem_of_getElem? (i := 275) (by decide +kernel)) rfl
theorem q276 : Cond.fieldLink RX3 25 RX3 "length" "I" ∈ lw_g := lwg (List.mem_of_getElem? (i := 276) (by decide +kernel)) rfl
theorem q288 : Cond.fieldLink RX8 10 RX8 "now" "LStairManners$House;" ∈ lw_g := lwg (List.mem_of_getElem? (i := 288) (by decide +kernel)) rfl
theorem q289 : Cond.fieldLink RX8 16 RX8 "draft" "LStairManners$House;" ∈ lw_g := lwg (List.mem_of_getElem? (i := 289) (by decide +kernel)) rfl
theorem q290 : Cond.fieldLink RX8 19 RX8 "images" "[LStairManners$House;" ∈ lw_g := lwg (List.mem_of_getElem? (i := 290) (by decide +kernel)) rfl
theorem q291 : Cond.fieldLink RX8 23 RX8 "kept" "[Z" ∈ lw_g := lwg (List.mem_of_getElem? (i := 291) (by decide +kernel)) rfl
theorem q292 : Cond.fieldLink RX8 30 RX8 "text" "LStairManners$Text;" ∈ lw_g := lwg (List.mem_of_getElem? (i := 292) (by decide +kernel)) rfl
theorem q293 : Cond.fieldLink RX8 37 RX8 "route" "LStairManners$Plan;" ∈ lw_g := lwg (List.mem_of_getElem? (i := 293) (by decide +kernel)) rfl
theorem q294 : Cond.fieldLink RX8 41 RX8 "above" "J" ∈ lw_g := lwg (List.mem_of_getElem? (i := 294) (by decide +kernel)) rfl
theorem q295 : Cond.fieldLink RX8 45 RX8 "below" "J" ∈ lw_g := lwg (List.mem_of_getElem? (i := 295) (by decide +kernel)) rfl
theorem q296 : Cond.fieldLink RX8 48 RX8 "bads" "I" ∈ lw_g := lwg (List.mem_of_getElem? (i := 296) (by decide +kernel)) rfl
theorem q297 : Cond.fieldLink RX8 52 RX8 "nos" "I" ∈ lw_g := lwg (List.mem_of_getElem? (i := 297) (by decide +kernel)) rfl
theorem q298 : Cond.fieldLink RX8 55 RX8 "fulls" "I" ∈ lw_g := lwg (List.mem_of_getElem? (i := 298) (by decide +kernel)) rfl
theorem q326 : Cond.methodLink RX8 61 yX0_empty ∈ lw_g := lwg (List.mem_of_getElem? (i := 326) (by decide +kernel)) rfl
theorem q327 : Cond.instanceMethod yX0_empty ∈ lw_g := lwg (List.mem_of_getElem? (i := 327) (by decide +kernel)) rfl
theorem q328 : Cond.selects RX0 yX0_empty yX0_empty ∈ lw_g := lwg (List.mem_of_getElem? (i := 328) (by decide +kernel)) rfl
theorem q329 : Cond.code yX0_empty cX0_empty 1 none ∈ lw_g := lwg (List.mem_of_getElem? (i := 329) (by decide +kernel)) rfl
theorem q330 : Cond.methodLink RX0 63 yX5_reset ∈ lw_g := lwg (List.mem_of_getElem? (i := 330) (by decide +kernel)) rfl
theorem q331 : Cond.methodLink RX0 66 yX4_drop ∈ lw_g := lwg (List.mem_of_getElem? (i := 331) (by decide +kernel)) rfl
theorem q332 : Cond.instanceMethod yX4_drop ∈ lw_g := lwg (List.mem_of_getElem? (i := 332) (by decide +kernel)) rfl
theorem q333 : Cond.selects RX4 yX4_drop yX4_drop ∈ lw_g := lwg (List.mem_of_getElem? (i := 333) (by decide +kernel)) rfl
theorem q334 : Cond.code yX4_drop cX4_drop 2 (some .int) ∈ lw_g := lwg (List.mem_of_getElem? (i := 334) (by decide +kernel)) rfl
theorem q339 : Cond.methodLink RX8 64 yX8_within ∈ lw_g := lwg (List.mem_of_getElem? (i := 339) (by decide +kernel)) rfl
theorem q340 : Cond.static yX8_within ∈ lw_g := lwg (List.mem_of_getElem? (i := 340) (by decide +kernel)) rfl
theorem q341 : Cond.code yX8_within cX8_within 3 (some .boolean) ∈ lw_g := lwg (List.mem_of_getElem? (i := 341) (by decide +kernel)) rfl
theorem q342 : Cond.methodLink RX8 68 yX8_refuse ∈ lw_g := lwg (List.mem_of_getElem? (i := 342) (by decide +kernel)) rfl
theorem q344 : Cond.instanceMethod yX8_refuse ∈ lw_g := lwg (List.mem_of_getElem? (i := 344) (by decide +kernel)) rfl
theorem q345 : Cond.code yX8_refuse cX8_refuse 2 (some .int) ∈ lw_g := lwg (List.mem_of_getElem? (i := 345) (by decide +kernel)) rfl
theorem q346 : Cond.methodLink RX8 72 yX0_welcome ∈ lw_g := lwg (List.mem_of_getElem? (i := 346) (by decide +kernel)) rfl
theorem q347 : Cond.instanceMethod yX0_welcome ∈ lw_g := lwg (List.mem_of_getElem? (i := 347) (by decide +kernel)) rfl
theorem q348 : Cond.selects RX0 yX0_welcome yX0_welcome ∈ lw_g := lwg (List.mem_of_getElem? (i := 348) (by decide +kernel)) rfl
theorem q349 : Cond.code yX0_welcome cX0_welcome 3 none ∈ lw_g := lwg (List.mem_of_getElem? (i := 349) (by decide +kernel)) rfl
theorem q355 : Cond.methodLink RX8 79 yX7_append ∈ lw_g := lwg (List.mem_of_getElem? (i := 355) (by decide +kernel)) rfl
theorem q356 : Cond.instanceMethod yX7_append ∈ lw_g := lwg (List.mem_of_getElem? (i := 356) (by decide +kernel)) rfl
theorem q357 : Cond.selects RX7 yX7_append yX7_append ∈ lw_g := lwg (List.mem_of_getElem? (i := 357) (by decide +kernel)) rfl
theorem q358 : Cond.code yX7_append cX7_append 2 none ∈ lw_g := lwg (List.mem_of_getElem? (i := 358) (by decide +kernel)) rfl
theorem q368 : Cond.methodLink RX8 83 yX7_readInto ∈ lw_g := lwg (List.mem_of_getElem? (i := 368) (by decide +kernel)) rfl
theorem q369 : Cond.instanceMethod yX7_readInto ∈ lw_g := lwg (List.mem_of_getElem? (i := 369) (by decide +kernel)) rfl
theorem q370 : Cond.selects RX7 yX7_readInto yX7_readInto ∈ lw_g := lwg (List.mem_of_getElem? (i := 370) (by decide +kernel)) rfl
theorem q371 : Cond.code yX7_readInto cX7_readInto 3 (some .int) ∈ lw_g := lwg (List.mem_of_getElem? (i := 371) (by decide +kernel)) rfl
theorem q372 : Cond.methodLink RX7 47 yX0_empty ∈ lw_g := lwg (List.mem_of_getElem? (i := 372) (by decide +kernel)) rfl
theorem q373 : Cond.methodLink RX7 52 yX7_nextToken ∈ lw_g := lwg (List.mem_of_getElem? (i := 373) (by decide +kernel)) rfl
theorem q375 : Cond.instanceMethod yX7_nextToken ∈ lw_g := lwg (List.mem_of_getElem? (i := 375) (by decide +kernel)) rfl
theorem q376 : Cond.code yX7_nextToken cX7_nextToken 2 none ∈ lw_g := lwg (List.mem_of_getElem? (i := 376) (by decide +kernel)) rfl
theorem q377 : Cond.methodLink RX7 113 yX7_behindRun ∈ lw_g := lwg (List.mem_of_getElem? (i := 377) (by decide +kernel)) rfl
theorem q379 : Cond.instanceMethod yX7_behindRun ∈ lw_g := lwg (List.mem_of_getElem? (i := 379) (by decide +kernel)) rfl
theorem q380 : Cond.code yX7_behindRun cX7_behindRun 5 (some .int) ∈ lw_g := lwg (List.mem_of_getElem? (i := 380) (by decide +kernel)) rfl
theorem q381 : Cond.methodLink RX7 117 yX7_byteAt ∈ lw_g := lwg (List.mem_of_getElem? (i := 381) (by decide +kernel)) rfl
theorem q383 : Cond.instanceMethod yX7_byteAt ∈ lw_g := lwg (List.mem_of_getElem? (i := 383) (by decide +kernel)) rfl
theorem q384 : Cond.code yX7_byteAt cX7_byteAt 2 (some .int) ∈ lw_g := lwg (List.mem_of_getElem? (i := 384) (by decide +kernel)) rfl
theorem q385 : Cond.methodLink RX7 120 yX7_wordRead ∈ lw_g := lwg (List.mem_of_getElem? (i := 385) (by decide +kernel)) rfl
theorem q387 : Cond.instanceMethod yX7_wordRead ∈ lw_g := lwg (List.mem_of_getElem? (i := 387) (by decide +kernel)) rfl
theorem q388 : Cond.code yX7_wordRead cX7_wordRead 2 (some .int) ∈ lw_g := lwg (List.mem_of_getElem? (i := 388) (by decide +kernel)) rfl
theorem q398 : Cond.methodLink RX7 130 yX7_reads ∈ lw_g := lwg (List.mem_of_getElem? (i := 398) (by decide +kernel)) rfl
theorem q400 : Cond.instanceMethod yX7_reads ∈ lw_g := lwg (List.mem_of_getElem? (i := 400) (by decide +kernel)) rfl
theorem q401 : Cond.code yX7_reads cX7_reads 3 (some .boolean) ∈ lw_g := lwg (List.mem_of_getElem? (i := 401) (by decide +kernel)) rfl
theorem q450 : Cond.methodLink RX7 123 yX7_numberRead ∈ lw_g := lwg (List.mem_of_getElem? (i := 450) (by decide +kernel)) rfl
theorem q452 : Cond.instanceMethod yX7_numberRead ∈ lw_g := lwg (List.mem_of_getElem? (i := 452) (by decide +kernel)) rfl
theorem q453 : Cond.code yX7_numberRead cX7_numberRead 3 (some .int) ∈ lw_g := lwg (List.mem_of_getElem? (i := 453) (by decide +kernel)) rfl
theorem q454 : Cond.methodLink RX7 55 yX7_takes ∈ lw_g := lwg (List.mem_of_getElem? (i := 454) (by decide +kernel)) rfl
theorem q456 : Cond.instanceMethod yX7_takes ∈ lw_g := lwg (List.mem_of_getElem? (i := 456) (by decide +kernel)) rfl
theorem q457 : Cond.code yX7_takes cX7_takes 2 (some .boolean) ∈ lw_g := lwg (List.mem_of_getElem? (i := 457) (by decide +kernel)) rfl
theorem q458 : Cond.methodLink RX7 59 yX7_begins ∈ lw_g := lwg (List.mem_of_getElem? (i := 458) (by decide +kernel)) rfl
theorem q460 : Cond.instanceMethod yX7_begins ∈ lw_g := lwg (List.mem_of_getElem? (i := 460) (by decide +kernel)) rfl
theorem q461 : Cond.code yX7_begins cX7_begins 4 (some .boolean) ∈ lw_g := lwg (List.mem_of_getElem? (i := 461) (by decide +kernel)) rfl
theorem q462 : Cond.methodLink RX7 62 yX7_numbersOf ∈ lw_g := lwg (List.mem_of_getElem? (i := 462) (by decide +kernel)) rfl
theorem q463 : Cond.static yX7_numbersOf ∈ lw_g := lwg (List.mem_of_getElem? (i := 463) (by decide +kernel)) rfl
theorem q464 : Cond.code yX7_numbersOf cX7_numbersOf 1 (some .int) ∈ lw_g := lwg (List.mem_of_getElem? (i := 464) (by decide +kernel)) rfl
theorem q465 : Cond.methodLink RX7 66 yX7_takesNumber ∈ lw_g := lwg (List.mem_of_getElem? (i := 465) (by decide +kernel)) rfl
theorem q467 : Cond.instanceMethod yX7_takesNumber ∈ lw_g := lwg (List.mem_of_getElem? (i := 467) (by decide +kernel)) rfl
theorem q468 : Cond.code yX7_takesNumber cX7_takesNumber 3 (some .boolean) ∈ lw_g := lwg (List.mem_of_getElem? (i := 468) (by decide +kernel)) rfl
theorem q469 : Cond.methodLink RX7 76 yX7_lowest ∈ lw_g := lwg (List.mem_of_getElem? (i := 469) (by decide +kernel)) rfl
theorem q471 : Cond.instanceMethod yX7_lowest ∈ lw_g := lwg (List.mem_of_getElem? (i := 471) (by decide +kernel)) rfl
theorem q472 : Cond.code yX7_lowest cX7_lowest 2 (some .int) ∈ lw_g := lwg (List.mem_of_getElem? (i := 472) (by decide +kernel)) rfl
theorem q473 : Cond.methodLink RX7 80 yX7_highest ∈ lw_g := lwg (List.mem_of_getElem? (i := 473) (by decide +kernel)) rfl
theorem q475 : Cond.instanceMethod yX7_highest ∈ lw_g := lwg (List.mem_of_getElem? (i := 475) (by decide +kernel)) rfl
theorem q476 : Cond.code yX7_highest cX7_highest 2 (some .int) ∈ lw_g := lwg (List.mem_of_getElem? (i := 476) (by decide +kernel)) rfl
theorem q477 : Cond.methodLink RX7 69 yX7_settle ∈ lw_g := lwg (List.mem_of_getElem? (i := 477) (by decide +kernel)) rfl
theorem q479 : Cond.instanceMethod yX7_settle ∈ lw_g := lwg (List.mem_of_getElem? (i := 479) (by decide +kernel)) rfl
theorem q480 : Cond.code yX7_settle cX7_settle 4 none ∈ lw_g := lwg (List.mem_of_getElem? (i := 480) (by decide +kernel)) rfl
theorem q481 : Cond.methodLink RX7 87 yX7_settleKinds ∈ lw_g := lwg (List.mem_of_getElem? (i := 481) (by decide +kernel)) rfl
theorem q483 : Cond.instanceMethod yX7_settleKinds ∈ lw_g := lwg (List.mem_of_getElem? (i := 483) (by decide +kernel)) rfl
theorem q484 : Cond.code yX7_settleKinds cX7_settleKinds 3 none ∈ lw_g := lwg (List.mem_of_getElem? (i := 484) (by decide +kernel)) rfl
theorem q485 : Cond.methodLink RX7 91 yX0_welcome ∈ lw_g := lwg (List.mem_of_getElem? (i := 485) (by decide +kernel)) rfl
theorem q486 : Cond.methodLink RX7 95 yX5_learn ∈ lw_g := lwg (List.mem_of_getElem? (i := 486) (by decide +kernel)) rfl
theorem q487 : Cond.instanceMethod yX5_learn ∈ lw_g := lwg (List.mem_of_getElem? (i := 487) (by decide +kernel)) rfl
theorem q488 : Cond.selects RX5 yX5_learn yX5_learn ∈ lw_g := lwg (List.mem_of_getElem? (i := 488) (by decide +kernel)) rfl
theorem q489 : Cond.code yX5_learn cX5_learn 3 none ∈ lw_g := lwg (List.mem_of_getElem? (i := 489) (by decide +kernel)) rfl
theorem q491 : Cond.methodLink RX7 103 yX5_stayAt ∈ lw_g := lwg (List.mem_of_getElem? (i := 491) (by decide +kernel)) rfl
theorem q492 : Cond.instanceMethod yX5_stayAt ∈ lw_g := lwg (List.mem_of_getElem? (i := 492) (by decide +kernel)) rfl
theorem q493 : Cond.selects RX5 yX5_stayAt yX5_stayAt ∈ lw_g := lwg (List.mem_of_getElem? (i := 493) (by decide +kernel)) rfl
theorem q494 : Cond.code yX5_stayAt cX5_stayAt 3 none ∈ lw_g := lwg (List.mem_of_getElem? (i := 494) (by decide +kernel)) rfl
theorem q495 : Cond.methodLink RX7 106 yX5_passMinutes ∈ lw_g := lwg (List.mem_of_getElem? (i := 495) (by decide +kernel)) rfl
theorem q496 : Cond.instanceMethod yX5_passMinutes ∈ lw_g := lwg (List.mem_of_getElem? (i := 496) (by decide +kernel)) rfl
theorem q497 : Cond.selects RX5 yX5_passMinutes yX5_passMinutes ∈ lw_g := lwg (List.mem_of_getElem? (i := 497) (by decide +kernel)) rfl
theorem q498 : Cond.code yX5_passMinutes cX5_passMinutes 3 none ∈ lw_g := lwg (List.mem_of_getElem? (i := 498) (by decide +kernel)) rfl
theorem q499 : Cond.methodLink RX5 46 yX5_passMinute ∈ lw_g := lwg (List.mem_of_getElem? (i := 499) (by decide +kernel)) rfl
theorem q500 : Cond.instanceMethod yX5_passMinute ∈ lw_g := lwg (List.mem_of_getElem? (i := 500) (by decide +kernel)) rfl
theorem q501 : Cond.selects RX5 yX5_passMinute yX5_passMinute ∈ lw_g := lwg (List.mem_of_getElem? (i := 501) (by decide +kernel)) rfl
theorem q502 : Cond.code yX5_passMinute cX5_passMinute 2 none ∈ lw_g := lwg (List.mem_of_getElem? (i := 502) (by decide +kernel)) rfl
theorem q503 : Cond.methodLink RX5 43 yX5_toldOn ∈ lw_g := lwg (List.mem_of_getElem? (i := 503) (by decide +kernel)) rfl
theorem q504 : Cond.instanceMethod yX5_toldOn ∈ lw_g := lwg (List.mem_of_getElem? (i := 504) (by decide +kernel)) rfl
theorem q505 : Cond.selects RX5 yX5_toldOn yX5_toldOn ∈ lw_g := lwg (List.mem_of_getElem? (i := 505) (by decide +kernel)) rfl
theorem q506 : Cond.code yX5_toldOn cX5_toldOn 6 (some .int) ∈ lw_g := lwg (List.mem_of_getElem? (i := 506) (by decide +kernel)) rfl
theorem q507 : Cond.methodLink RX8 87 yX0_copyFrom ∈ lw_g := lwg (List.mem_of_getElem? (i := 507) (by decide +kernel)) rfl
theorem q508 : Cond.instanceMethod yX0_copyFrom ∈ lw_g := lwg (List.mem_of_getElem? (i := 508) (by decide +kernel)) rfl
theorem q509 : Cond.selects RX0 yX0_copyFrom yX0_copyFrom ∈ lw_g := lwg (List.mem_of_getElem? (i := 509) (by decide +kernel)) rfl
theorem q510 : Cond.code yX0_copyFrom cX0_copyFrom 3 none ∈ lw_g := lwg (List.mem_of_getElem? (i := 510) (by decide +kernel)) rfl
theorem q511 : Cond.methodLink RX0 74 yX0_copyPeople ∈ lw_g := lwg (List.mem_of_getElem? (i := 511) (by decide +kernel)) rfl
theorem q512 : Cond.instanceMethod yX0_copyPeople ∈ lw_g := lwg (List.mem_of_getElem? (i := 512) (by decide +kernel)) rfl
theorem q513 : Cond.selects RX0 yX0_copyPeople yX0_copyPeople ∈ lw_g := lwg (List.mem_of_getElem? (i := 513) (by decide +kernel)) rfl
theorem q514 : Cond.code yX0_copyPeople cX0_copyPeople 3 none ∈ lw_g := lwg (List.mem_of_getElem? (i := 514) (by decide +kernel)) rfl
theorem q515 : Cond.methodLink RX0 70 yX5_copyFrom ∈ lw_g := lwg (List.mem_of_getElem? (i := 515) (by decide +kernel)) rfl
theorem q516 : Cond.instanceMethod yX5_copyFrom ∈ lw_g := lwg (List.mem_of_getElem? (i := 516) (by decide +kernel)) rfl
theorem q517 : Cond.selects RX5 yX5_copyFrom yX5_copyFrom ∈ lw_g := lwg (List.mem_of_getElem? (i := 517) (by decide +kernel)) rfl
theorem q518 : Cond.code yX5_copyFrom cX5_copyFrom 3 none ∈ lw_g := lwg (List.mem_of_getElem? (i := 518) (by decide +kernel)) rfl
theorem q519 : Cond.methodLink RX0 78 yX4_copyFrom ∈ lw_g := lwg (List.mem_of_getElem? (i := 519) (by decide +kernel)) rfl
theorem q520 : Cond.instanceMethod yX4_copyFrom ∈ lw_g := lwg (List.mem_of_getElem? (i := 520) (by decide +kernel)) rfl
theorem q521 : Cond.selects RX4 yX4_copyFrom yX4_copyFrom ∈ lw_g := lwg (List.mem_of_getElem? (i := 521) (by decide +kernel)) rfl
theorem q522 : Cond.code yX4_copyFrom cX4_copyFrom 3 none ∈ lw_g := lwg (List.mem_of_getElem? (i := 522) (by decide +kernel)) rfl
theorem q528 : Cond.methodLink RX8 91 yX0_hasPerson ∈ lw_g := lwg (List.mem_of_getElem? (i := 528) (by decide +kernel)) rfl
theorem q529 : Cond.instanceMethod yX0_hasPerson ∈ lw_g := lwg (List.mem_of_getElem? (i := 529) (by decide +kernel)) rfl
theorem q530 : Cond.selects RX0 yX0_hasPerson yX0_hasPerson ∈ lw_g := lwg (List.mem_of_getElem? (i := 530) (by decide +kernel)) rfl
theorem q531 : Cond.code yX0_hasPerson cX0_hasPerson 2 (some .boolean) ∈ lw_g := lwg (List.mem_of_getElem? (i := 531) (by decide +kernel)) rfl
theorem q532 : Cond.methodLink RX8 95 yX8_isStep ∈ lw_g := lwg (List.mem_of_getElem? (i := 532) (by decide +kernel)) rfl
theorem q533 : Cond.static yX8_isStep ∈ lw_g := lwg (List.mem_of_getElem? (i := 533) (by decide +kernel)) rfl
theorem q534 : Cond.code yX8_isStep cX8_isStep 1 (some .boolean) ∈ lw_g := lwg (List.mem_of_getElem? (i := 534) (by decide +kernel)) rfl
theorem q535 : Cond.methodLink RX8 102 yX5_isKnown ∈ lw_g := lwg (List.mem_of_getElem? (i := 535) (by decide +kernel)) rfl
theorem q536 : Cond.instanceMethod yX5_isKnown ∈ lw_g := lwg (List.mem_of_getElem? (i := 536) (by decide +kernel)) rfl
theorem q537 : Cond.selects RX5 yX5_isKnown yX5_isKnown ∈ lw_g := lwg (List.mem_of_getElem? (i := 537) (by decide +kernel)) rfl
theorem q538 : Cond.code yX5_isKnown cX5_isKnown 3 (some .boolean) ∈ lw_g := lwg (List.mem_of_getElem? (i := 538) (by decide +kernel)) rfl
theorem q539 : Cond.methodLink RX8 111 yX0_remember ∈ lw_g := lwg (List.mem_of_getElem? (i := 539) (by decide +kernel)) rfl
theorem q540 : Cond.instanceMethod yX0_remember ∈ lw_g := lwg (List.mem_of_getElem? (i := 540) (by decide +kernel)) rfl
theorem q541 : Cond.selects RX0 yX0_remember yX0_remember ∈ lw_g := lwg (List.mem_of_getElem? (i := 541) (by decide +kernel)) rfl
theorem q542 : Cond.code yX0_remember cX0_remember 1 none ∈ lw_g := lwg (List.mem_of_getElem? (i := 542) (by decide +kernel)) rfl
theorem q543 : Cond.methodLink RX0 85 yX0_dropOldest ∈ lw_g := lwg (List.mem_of_getElem? (i := 543) (by decide +kernel)) rfl
theorem q545 : Cond.instanceMethod yX0_dropOldest ∈ lw_g := lwg (List.mem_of_getElem? (i := 545) (by decide +kernel)) rfl
theorem q546 : Cond.code yX0_dropOldest cX0_dropOldest 3 none ∈ lw_g := lwg (List.mem_of_getElem? (i := 546) (by decide +kernel)) rfl
theorem q547 : Cond.methodLink RX8 114 yX0_introduce ∈ lw_g := lwg (List.mem_of_getElem? (i := 547) (by decide +kernel)) rfl
theorem q548 : Cond.instanceMethod yX0_introduce ∈ lw_g := lwg (List.mem_of_getElem? (i := 548) (by decide +kernel)) rfl
theorem q549 : Cond.selects RX0 yX0_introduce yX0_introduce ∈ lw_g := lwg (List.mem_of_getElem? (i := 549) (by decide +kernel)) rfl
theorem q550 : Cond.code yX0_introduce cX0_introduce 3 none ∈ lw_g := lwg (List.mem_of_getElem? (i := 550) (by decide +kernel)) rfl
theorem q551 : Cond.methodLink RX0 117 yX0_othersWhoKnow ∈ lw_g := lwg (List.mem_of_getElem? (i := 551) (by decide +kernel)) rfl
theorem q552 : Cond.instanceMethod yX0_othersWhoKnow ∈ lw_g := lwg (List.mem_of_getElem? (i := 552) (by decide +kernel)) rfl
theorem q553 : Cond.selects RX0 yX0_othersWhoKnow yX0_othersWhoKnow ∈ lw_g := lwg (List.mem_of_getElem? (i := 553) (by decide +kernel)) rfl
theorem q554 : Cond.code yX0_othersWhoKnow cX0_othersWhoKnow 3 (some .int) ∈ lw_g := lwg (List.mem_of_getElem? (i := 554) (by decide +kernel)) rfl
theorem q555 : Cond.methodLink RX0 99 yX5_knowers ∈ lw_g := lwg (List.mem_of_getElem? (i := 555) (by decide +kernel)) rfl
theorem q556 : Cond.instanceMethod yX5_knowers ∈ lw_g := lwg (List.mem_of_getElem? (i := 556) (by decide +kernel)) rfl
theorem q557 : Cond.selects RX5 yX5_knowers yX5_knowers ∈ lw_g := lwg (List.mem_of_getElem? (i := 557) (by decide +kernel)) rfl
theorem q558 : Cond.code yX5_knowers cX5_knowers 4 (some .int) ∈ lw_g := lwg (List.mem_of_getElem? (i := 558) (by decide +kernel)) rfl
theorem q559 : Cond.methodLink RX5 33 yX5_isKnown ∈ lw_g := lwg (List.mem_of_getElem? (i := 559) (by decide +kernel)) rfl
theorem q560 : Cond.methodLink RX0 123 yX0_couldMeet ∈ lw_g := lwg (List.mem_of_getElem? (i := 560) (by decide +kernel)) rfl
theorem q561 : Cond.instanceMethod yX0_couldMeet ∈ lw_g := lwg (List.mem_of_getElem? (i := 561) (by decide +kernel)) rfl
theorem q562 : Cond.selects RX0 yX0_couldMeet yX0_couldMeet ∈ lw_g := lwg (List.mem_of_getElem? (i := 562) (by decide +kernel)) rfl
theorem q563 : Cond.code yX0_couldMeet cX0_couldMeet 5 (some .boolean) ∈ lw_g := lwg (List.mem_of_getElem? (i := 563) (by decide +kernel)) rfl
theorem q564 : Cond.methodLink RX0 107 yX5_isKnown ∈ lw_g := lwg (List.mem_of_getElem? (i := 564) (by decide +kernel)) rfl
theorem q565 : Cond.methodLink RX0 111 yX0_wordOf ∈ lw_g := lwg (List.mem_of_getElem? (i := 565) (by decide +kernel)) rfl
theorem q566 : Cond.instanceMethod yX0_wordOf ∈ lw_g := lwg (List.mem_of_getElem? (i := 566) (by decide +kernel)) rfl
theorem q567 : Cond.selects RX0 yX0_wordOf yX0_wordOf ∈ lw_g := lwg (List.mem_of_getElem? (i := 567) (by decide +kernel)) rfl
theorem q568 : Cond.code yX0_wordOf cX0_wordOf 5 (some .int) ∈ lw_g := lwg (List.mem_of_getElem? (i := 568) (by decide +kernel)) rfl
theorem q569 : Cond.methodLink RX0 103 yX0_worth ∈ lw_g := lwg (List.mem_of_getElem? (i := 569) (by decide +kernel)) rfl
theorem q570 : Cond.instanceMethod yX0_worth ∈ lw_g := lwg (List.mem_of_getElem? (i := 570) (by decide +kernel)) rfl
theorem q571 : Cond.selects RX0 yX0_worth yX0_worth ∈ lw_g := lwg (List.mem_of_getElem? (i := 571) (by decide +kernel)) rfl
theorem q572 : Cond.code yX0_worth cX0_worth 3 (some .int) ∈ lw_g := lwg (List.mem_of_getElem? (i := 572) (by decide +kernel)) rfl
theorem q573 : Cond.methodLink RX0 91 yX2_answer ∈ lw_g := lwg (List.mem_of_getElem? (i := 573) (by decide +kernel)) rfl
theorem q574 : Cond.instanceMethod yX2_answer ∈ lw_g := lwg (List.mem_of_getElem? (i := 574) (by decide +kernel)) rfl
theorem q575 : Cond.selects RX2 yX2_answer yX2_answer ∈ lw_g := lwg (List.mem_of_getElem? (i := 575) (by decide +kernel)) rfl
theorem q576 : Cond.code yX2_answer cX2_answer 6 (some .int) ∈ lw_g := lwg (List.mem_of_getElem? (i := 576) (by decide +kernel)) rfl
theorem q577 : Cond.methodLink RX0 114 yX0_wanted ∈ lw_g := lwg (List.mem_of_getElem? (i := 577) (by decide +kernel)) rfl
theorem q578 : Cond.instanceMethod yX0_wanted ∈ lw_g := lwg (List.mem_of_getElem? (i := 578) (by decide +kernel)) rfl
theorem q579 : Cond.selects RX0 yX0_wanted yX0_wanted ∈ lw_g := lwg (List.mem_of_getElem? (i := 579) (by decide +kernel)) rfl
theorem q580 : Cond.code yX0_wanted cX0_wanted 4 (some .int) ∈ lw_g := lwg (List.mem_of_getElem? (i := 580) (by decide +kernel)) rfl
theorem q581 : Cond.methodLink RX0 98 yX6_answer ∈ lw_g := lwg (List.mem_of_getElem? (i := 581) (by decide +kernel)) rfl
theorem q582 : Cond.instanceMethod yX6_answer ∈ lw_g := lwg (List.mem_of_getElem? (i := 582) (by decide +kernel)) rfl
theorem q583 : Cond.selects RX6 yX6_answer yX6_answer ∈ lw_g := lwg (List.mem_of_getElem? (i := 583) (by decide +kernel)) rfl
theorem q584 : Cond.code yX6_answer cX6_answer 7 (some .int) ∈ lw_g := lwg (List.mem_of_getElem? (i := 584) (by decide +kernel)) rfl
theorem q588 : Cond.methodLink RX0 127 yX5_learn ∈ lw_g := lwg (List.mem_of_getElem? (i := 588) (by decide +kernel)) rfl
theorem q589 : Cond.methodLink RX0 131 yX5_passMinute ∈ lw_g := lwg (List.mem_of_getElem? (i := 589) (by decide +kernel)) rfl
theorem q594 : Cond.methodLink RX8 117 yX8_refusePlace ∈ lw_g := lwg (List.mem_of_getElem? (i := 594) (by decide +kernel)) rfl
theorem q596 : Cond.instanceMethod yX8_refusePlace ∈ lw_g := lwg (List.mem_of_getElem? (i := 596) (by decide +kernel)) rfl
theorem q597 : Cond.code yX8_refusePlace cX8_refusePlace 1 (some .int) ∈ lw_g := lwg (List.mem_of_getElem? (i := 597) (by decide +kernel)) rfl
theorem q598 : Cond.methodLink RX8 125 yX5_walk ∈ lw_g := lwg (List.mem_of_getElem? (i := 598) (by decide +kernel)) rfl
theorem q599 : Cond.instanceMethod yX5_walk ∈ lw_g := lwg (List.mem_of_getElem? (i := 599) (by decide +kernel)) rfl
theorem q600 : Cond.selects RX5 yX5_walk yX5_walk ∈ lw_g := lwg (List.mem_of_getElem? (i := 600) (by decide +kernel)) rfl
theorem q601 : Cond.code yX5_walk cX5_walk 4 none ∈ lw_g := lwg (List.mem_of_getElem? (i := 601) (by decide +kernel)) rfl
theorem q602 : Cond.methodLink RX5 53 yX5_bearsAbove ∈ lw_g := lwg (List.mem_of_getElem? (i := 602) (by decide +kernel)) rfl
theorem q604 : Cond.instanceMethod yX5_bearsAbove ∈ lw_g := lwg (List.mem_of_getElem? (i := 604) (by decide +kernel)) rfl
theorem q605 : Cond.code yX5_bearsAbove cX5_bearsAbove 3 (some .boolean) ∈ lw_g := lwg (List.mem_of_getElem? (i := 605) (by decide +kernel)) rfl
theorem q606 : Cond.methodLink RX8 128 yX5_passMinute ∈ lw_g := lwg (List.mem_of_getElem? (i := 606) (by decide +kernel)) rfl
theorem q611 : Cond.methodLink RX8 131 yX5_passMinutes ∈ lw_g := lwg (List.mem_of_getElem? (i := 611) (by decide +kernel)) rfl
theorem q612 : Cond.methodLink RX8 134 yX5_knownTogether ∈ lw_g := lwg (List.mem_of_getElem? (i := 612) (by decide +kernel)) rfl
theorem q613 : Cond.instanceMethod yX5_knownTogether ∈ lw_g := lwg (List.mem_of_getElem? (i := 613) (by decide +kernel)) rfl
theorem q614 : Cond.selects RX5 yX5_knownTogether yX5_knownTogether ∈ lw_g := lwg (List.mem_of_getElem? (i := 614) (by decide +kernel)) rfl
theorem q615 : Cond.code yX5_knownTogether cX5_knownTogether 3 (some .int) ∈ lw_g := lwg (List.mem_of_getElem? (i := 615) (by decide +kernel)) rfl
theorem q616 : Cond.methodLink RX5 37 yJ6_bitCount_0f7a4 ∈ lw_g := lwg (List.mem_of_getElem? (i := 616) (by decide +kernel)) rfl
theorem q617 : Cond.static yJ6_bitCount_0f7a4 ∈ lw_g := lwg (List.mem_of_getElem? (i := 617) (by decide +kernel)) rfl
theorem q618 : Cond.code yJ6_bitCount_0f7a4 cJ6_bitCount_0f7a4 1 (some .int) ∈ lw_g := lwg (List.mem_of_getElem? (i := 618) (by decide +kernel)) rfl
theorem q619 : Cond.constant RJ6 265 (1431655765 : Int32) ∈ lw_g := lwg (List.mem_of_getElem? (i := 619) (by decide +kernel)) rfl
theorem q620 : Cond.constant RJ6 266 (858993459 : Int32) ∈ lw_g := lwg (List.mem_of_getElem? (i := 620) (by decide +kernel)) rfl
theorem q621 : Cond.constant RJ6 267 (252645135 : Int32) ∈ lw_g := lwg (List.mem_of_getElem? (i := 621) (by decide +kernel)) rfl
theorem q630 : Cond.methodLink RX8 140 yX5_knowers ∈ lw_g := lwg (List.mem_of_getElem? (i := 630) (by decide +kernel)) rfl
theorem q631 : Cond.methodLink RX8 143 yJ6_bitCount_0f7a4 ∈ lw_g := lwg (List.mem_of_getElem? (i := 631) (by decide +kernel)) rfl
theorem q632 : Cond.methodLink RX8 148 yX5_putIn ∈ lw_g := lwg (List.mem_of_getElem? (i := 632) (by decide +kernel)) rfl
theorem q633 : Cond.instanceMethod yX5_putIn ∈ lw_g := lwg (List.mem_of_getElem? (i := 633) (by decide +kernel)) rfl
theorem q634 : Cond.selects RX5 yX5_putIn yX5_putIn ∈ lw_g := lwg (List.mem_of_getElem? (i := 634) (by decide +kernel)) rfl
theorem q635 : Cond.code yX5_putIn cX5_putIn 4 none ∈ lw_g := lwg (List.mem_of_getElem? (i := 635) (by decide +kernel)) rfl
theorem q640 : Cond.methodLink RX8 154 yX0_goBack ∈ lw_g := lwg (List.mem_of_getElem? (i := 640) (by decide +kernel)) rfl
theorem q641 : Cond.instanceMethod yX0_goBack ∈ lw_g := lwg (List.mem_of_getElem? (i := 641) (by decide +kernel)) rfl
theorem q642 : Cond.selects RX0 yX0_goBack yX0_goBack ∈ lw_g := lwg (List.mem_of_getElem? (i := 642) (by decide +kernel)) rfl
theorem q643 : Cond.code yX0_goBack cX0_goBack 1 none ∈ lw_g := lwg (List.mem_of_getElem? (i := 643) (by decide +kernel)) rfl
theorem q656 : Cond.methodLink RX8 169 yX0_othersWhoKnow ∈ lw_g := lwg (List.mem_of_getElem? (i := 656) (by decide +kernel)) rfl
theorem q657 : Cond.methodLink RX8 173 yX0_wanted ∈ lw_g := lwg (List.mem_of_getElem? (i := 657) (by decide +kernel)) rfl
theorem q658 : Cond.methodLink RX8 177 yX0_wordOf ∈ lw_g := lwg (List.mem_of_getElem? (i := 658) (by decide +kernel)) rfl
theorem q659 : Cond.methodLink RX8 180 yX0_couldMeet ∈ lw_g := lwg (List.mem_of_getElem? (i := 659) (by decide +kernel)) rfl
theorem q664 : Cond.methodLink RX8 184 yX0_worth ∈ lw_g := lwg (List.mem_of_getElem? (i := 664) (by decide +kernel)) rfl
theorem q669 : Cond.methodLink RX8 187 yX5_highest ∈ lw_g := lwg (List.mem_of_getElem? (i := 669) (by decide +kernel)) rfl
theorem q670 : Cond.instanceMethod yX5_highest ∈ lw_g := lwg (List.mem_of_getElem? (i := 670) (by decide +kernel)) rfl
theorem q671 : Cond.selects RX5 yX5_highest yX5_highest ∈ lw_g := lwg (List.mem_of_getElem? (i := 671) (by decide +kernel)) rfl
theorem q672 : Cond.code yX5_highest cX5_highest 3 (some .int) ∈ lw_g := lwg (List.mem_of_getElem? (i := 672) (by decide +kernel)) rfl
theorem q677 : Cond.methodLink RX8 190 yX5_toldOn ∈ lw_g := lwg (List.mem_of_getElem? (i := 677) (by decide +kernel)) rfl
theorem q686 : Cond.methodLink RX8 193 yX3_make ∈ lw_g := lwg (List.mem_of_getElem? (i := 686) (by decide +kernel)) rfl
theorem q687 : Cond.instanceMethod yX3_make ∈ lw_g := lwg (List.mem_of_getElem? (i := 687) (by decide +kernel)) rfl
theorem q688 : Cond.selects RX3 yX3_make yX3_make ∈ lw_g := lwg (List.mem_of_getElem? (i := 688) (by decide +kernel)) rfl
theorem q689 : Cond.code yX3_make cX3_make 5 (some .int) ∈ lw_g := lwg (List.mem_of_getElem? (i := 689) (by decide +kernel)) rfl
theorem q690 : Cond.methodLink RX3 28 yX0_lacking ∈ lw_g := lwg (List.mem_of_getElem? (i := 690) (by decide +kernel)) rfl
theorem q691 : Cond.instanceMethod yX0_lacking ∈ lw_g := lwg (List.mem_of_getElem? (i := 691) (by decide +kernel)) rfl
theorem q692 : Cond.selects RX0 yX0_lacking yX0_lacking ∈ lw_g := lwg (List.mem_of_getElem? (i := 692) (by decide +kernel)) rfl
theorem q693 : Cond.code yX0_lacking cX0_lacking 5 (some .int) ∈ lw_g := lwg (List.mem_of_getElem? (i := 693) (by decide +kernel)) rfl
theorem q694 : Cond.methodLink RX3 42 yX0_meetable ∈ lw_g := lwg (List.mem_of_getElem? (i := 694) (by decide +kernel)) rfl
theorem q695 : Cond.instanceMethod yX0_meetable ∈ lw_g := lwg (List.mem_of_getElem? (i := 695) (by decide +kernel)) rfl
theorem q696 : Cond.selects RX0 yX0_meetable yX0_meetable ∈ lw_g := lwg (List.mem_of_getElem? (i := 696) (by decide +kernel)) rfl
theorem q697 : Cond.code yX0_meetable cX0_meetable 6 (some .int) ∈ lw_g := lwg (List.mem_of_getElem? (i := 697) (by decide +kernel)) rfl
theorem q698 : Cond.methodLink RX3 45 yX3_soonestOf ∈ lw_g := lwg (List.mem_of_getElem? (i := 698) (by decide +kernel)) rfl
theorem q700 : Cond.instanceMethod yX3_soonestOf ∈ lw_g := lwg (List.mem_of_getElem? (i := 700) (by decide +kernel)) rfl
theorem q701 : Cond.code yX3_soonestOf cX3_soonestOf 5 (some .int) ∈ lw_g := lwg (List.mem_of_getElem? (i := 701) (by decide +kernel)) rfl
theorem q702 : Cond.methodLink RX3 53 yX3_firstMinute ∈ lw_g := lwg (List.mem_of_getElem? (i := 702) (by decide +kernel)) rfl
theorem q704 : Cond.instanceMethod yX3_firstMinute ∈ lw_g := lwg (List.mem_of_getElem? (i := 704) (by decide +kernel)) rfl
theorem q705 : Cond.code yX3_firstMinute cX3_firstMinute 4 (some .int) ∈ lw_g := lwg (List.mem_of_getElem? (i := 705) (by decide +kernel)) rfl
theorem q711 : Cond.methodLink RX8 197 yX3_deed ∈ lw_g := lwg (List.mem_of_getElem? (i := 711) (by decide +kernel)) rfl
theorem q712 : Cond.instanceMethod yX3_deed ∈ lw_g := lwg (List.mem_of_getElem? (i := 712) (by decide +kernel)) rfl
theorem q713 : Cond.selects RX3 yX3_deed yX3_deed ∈ lw_g := lwg (List.mem_of_getElem? (i := 713) (by decide +kernel)) rfl
theorem q714 : Cond.code yX3_deed cX3_deed 5 (some .int) ∈ lw_g := lwg (List.mem_of_getElem? (i := 714) (by decide +kernel)) rfl
theorem q715 : Cond.methodLink RX3 64 yX3_latestOf ∈ lw_g := lwg (List.mem_of_getElem? (i := 715) (by decide +kernel)) rfl
theorem q717 : Cond.instanceMethod yX3_latestOf ∈ lw_g := lwg (List.mem_of_getElem? (i := 717) (by decide +kernel)) rfl
theorem q718 : Cond.code yX3_latestOf cX3_latestOf 5 (some .int) ∈ lw_g := lwg (List.mem_of_getElem? (i := 718) (by decide +kernel)) rfl
theorem q719 : Cond.methodLink RX3 70 yX3_lastMinute ∈ lw_g := lwg (List.mem_of_getElem? (i := 719) (by decide +kernel)) rfl
theorem q721 : Cond.instanceMethod yX3_lastMinute ∈ lw_g := lwg (List.mem_of_getElem? (i := 721) (by decide +kernel)) rfl
theorem q722 : Cond.code yX3_lastMinute cX3_lastMinute 4 (some .int) ∈ lw_g := lwg (List.mem_of_getElem? (i := 722) (by decide +kernel)) rfl
theorem q723 : Cond.methodLink RX3 67 yX3_firstDeed ∈ lw_g := lwg (List.mem_of_getElem? (i := 723) (by decide +kernel)) rfl
theorem q725 : Cond.instanceMethod yX3_firstDeed ∈ lw_g := lwg (List.mem_of_getElem? (i := 725) (by decide +kernel)) rfl
theorem q726 : Cond.code yX3_firstDeed cX3_firstDeed 5 (some .int) ∈ lw_g := lwg (List.mem_of_getElem? (i := 726) (by decide +kernel)) rfl
theorem q727 : Cond.methodLink RX3 73 yX3_leavesTime ∈ lw_g := lwg (List.mem_of_getElem? (i := 727) (by decide +kernel)) rfl
theorem q729 : Cond.instanceMethod yX3_leavesTime ∈ lw_g := lwg (List.mem_of_getElem? (i := 729) (by decide +kernel)) rfl
theorem q730 : Cond.code yX3_leavesTime cX3_leavesTime 3 (some .boolean) ∈ lw_g := lwg (List.mem_of_getElem? (i := 730) (by decide +kernel)) rfl
theorem q735 : Cond.methodLink RX8 204 yX8_add ∈ lw_g := lwg (List.mem_of_getElem? (i := 735) (by decide +kernel)) rfl
theorem q737 : Cond.instanceMethod yX8_add ∈ lw_g := lwg (List.mem_of_getElem? (i := 737) (by decide +kernel)) rfl
theorem q738 : Cond.code yX8_add cX8_add 6 (some .int) ∈ lw_g := lwg (List.mem_of_getElem? (i := 738) (by decide +kernel)) rfl
theorem q739 : Cond.methodLink RX8 285 yX4_append ∈ lw_g := lwg (List.mem_of_getElem? (i := 739) (by decide +kernel)) rfl
theorem q740 : Cond.instanceMethod yX4_append ∈ lw_g := lwg (List.mem_of_getElem? (i := 740) (by decide +kernel)) rfl
theorem q741 : Cond.selects RX4 yX4_append yX4_append ∈ lw_g := lwg (List.mem_of_getElem? (i := 741) (by decide +kernel)) rfl
theorem q742 : Cond.code yX4_append cX4_append 6 none ∈ lw_g := lwg (List.mem_of_getElem? (i := 742) (by decide +kernel)) rfl
theorem q748 : Cond.methodLink RX8 208 yX0_fitsSights ∈ lw_g := lwg (List.mem_of_getElem? (i := 748) (by decide +kernel)) rfl
theorem q749 : Cond.instanceMethod yX0_fitsSights ∈ lw_g := lwg (List.mem_of_getElem? (i := 749) (by decide +kernel)) rfl
theorem q750 : Cond.selects RX0 yX0_fitsSights yX0_fitsSights ∈ lw_g := lwg (List.mem_of_getElem? (i := 750) (by decide +kernel)) rfl
theorem q751 : Cond.code yX0_fitsSights cX0_fitsSights 6 (some .boolean) ∈ lw_g := lwg (List.mem_of_getElem? (i := 751) (by decide +kernel)) rfl
theorem q752 : Cond.methodLink RX0 140 yX4_cell ∈ lw_g := lwg (List.mem_of_getElem? (i := 752) (by decide +kernel)) rfl
theorem q753 : Cond.instanceMethod yX4_cell ∈ lw_g := lwg (List.mem_of_getElem? (i := 753) (by decide +kernel)) rfl
theorem q754 : Cond.selects RX4 yX4_cell yX4_cell ∈ lw_g := lwg (List.mem_of_getElem? (i := 754) (by decide +kernel)) rfl
theorem q755 : Cond.code yX4_cell cX4_cell 4 (some .int) ∈ lw_g := lwg (List.mem_of_getElem? (i := 755) (by decide +kernel)) rfl
theorem q768 : Cond.methodLink RX8 217 yX4_drop ∈ lw_g := lwg (List.mem_of_getElem? (i := 768) (by decide +kernel)) rfl
theorem q773 : Cond.methodLink RX8 226 ⟨RX6, "fitting", "(LStairManners$Rows;I)I"⟩ ∈ lw_g := lwg (List.mem_of_getElem? (i := 773) (by decide +kernel)) rfl
theorem q774 : Cond.sameMethod RX6 RX1 "fitting" "(LStairManners$Rows;I)I" ∈ lw_g := lwg (List.mem_of_getElem? (i := 774) (by decide +kernel)) rfl
theorem q776 : Cond.selects RX6 ⟨RX6, "fitting", "(LStairManners$Rows;I)I"⟩ yX1_fitting ∈ lw_g := lwg (List.mem_of_getElem? (i := 776) (by decide +kernel)) rfl
theorem q777 : Cond.instanceMethod yX1_fitting ∈ lw_g := lwg (List.mem_of_getElem? (i := 777) (by decide +kernel)) rfl
theorem q778 : Cond.code yX1_fitting cX1_fitting 5 (some .int) ∈ lw_g := lwg (List.mem_of_getElem? (i := 778) (by decide +kernel)) rfl
theorem q779 : Cond.methodLink RX1 9 yX1_fits ∈ lw_g := lwg (List.mem_of_getElem? (i := 779) (by decide +kernel)) rfl
theorem q781 : Cond.instanceMethod yX1_fits ∈ lw_g := lwg (List.mem_of_getElem? (i := 781) (by decide +kernel)) rfl
theorem q782 : Cond.code yX1_fits cX1_fits 6 (some .boolean) ∈ lw_g := lwg (List.mem_of_getElem? (i := 782) (by decide +kernel)) rfl
theorem q783 : Cond.methodLink RX1 29 yX4_cell ∈ lw_g := lwg (List.mem_of_getElem? (i := 783) (by decide +kernel)) rfl
theorem q784 : Cond.methodLink RX1 33 ⟨RX1, "answer", "(III)I"⟩ ∈ lw_g := lwg (List.mem_of_getElem? (i := 784) (by decide +kernel)) rfl
theorem q786 : Cond.sameMethod RX1 RX1 "answer" "(III)I" ∈ lw_g := lwg (List.mem_of_getElem? (i := 786) (by decide +kernel)) rfl
theorem q787 : Cond.selects RX2 ⟨RX1, "answer", "(III)I"⟩ yX2_answer ∈ lw_g := lwg (List.mem_of_getElem? (i := 787) (by decide +kernel)) rfl
theorem q788 : Cond.selects RX6 ⟨RX1, "answer", "(III)I"⟩ yX6_answer ∈ lw_g := lwg (List.mem_of_getElem? (i := 788) (by decide +kernel)) rfl
theorem q793 : Cond.methodLink RX8 232 ⟨RX6, "nextQuestion", "(LStairManners$Rows;I)I"⟩ ∈ lw_g := lwg (List.mem_of_getElem? (i := 793) (by decide +kernel)) rfl
theorem q794 : Cond.sameMethod RX6 RX1 "nextQuestion" "(LStairManners$Rows;I)I" ∈ lw_g := lwg (List.mem_of_getElem? (i := 794) (by decide +kernel)) rfl
theorem q796 : Cond.selects RX6 ⟨RX6, "nextQuestion", "(LStairManners$Rows;I)I"⟩ yX1_nextQuestion ∈ lw_g := lwg (List.mem_of_getElem? (i := 796) (by decide +kernel)) rfl
theorem q797 : Cond.instanceMethod yX1_nextQuestion ∈ lw_g := lwg (List.mem_of_getElem? (i := 797) (by decide +kernel)) rfl
theorem q798 : Cond.code yX1_nextQuestion cX1_nextQuestion 4 (some .int) ∈ lw_g := lwg (List.mem_of_getElem? (i := 798) (by decide +kernel)) rfl
theorem q799 : Cond.methodLink RX1 15 yX1_fitting ∈ lw_g := lwg (List.mem_of_getElem? (i := 799) (by decide +kernel)) rfl
theorem q800 : Cond.methodLink RX1 19 ⟨RX1, "bestQuestion", "(I)I"⟩ ∈ lw_g := lwg (List.mem_of_getElem? (i := 800) (by decide +kernel)) rfl
theorem q802 : Cond.sameMethod RX1 RX1 "bestQuestion" "(I)I" ∈ lw_g := lwg (List.mem_of_getElem? (i := 802) (by decide +kernel)) rfl
theorem q803 : Cond.selects RX2 ⟨RX1, "bestQuestion", "(I)I"⟩ yX2_bestQuestion ∈ lw_g := lwg (List.mem_of_getElem? (i := 803) (by decide +kernel)) rfl
theorem q804 : Cond.instanceMethod yX2_bestQuestion ∈ lw_g := lwg (List.mem_of_getElem? (i := 804) (by decide +kernel)) rfl
theorem q805 : Cond.code yX2_bestQuestion cX2_bestQuestion 7 (some .int) ∈ lw_g := lwg (List.mem_of_getElem? (i := 805) (by decide +kernel)) rfl
theorem q806 : Cond.methodLink RX2 11 ⟨RX2, "mostAlike", "(III)I"⟩ ∈ lw_g := lwg (List.mem_of_getElem? (i := 806) (by decide +kernel)) rfl
theorem q807 : Cond.sameMethod RX2 RX1 "mostAlike" "(III)I" ∈ lw_g := lwg (List.mem_of_getElem? (i := 807) (by decide +kernel)) rfl
theorem q809 : Cond.selects RX2 ⟨RX2, "mostAlike", "(III)I"⟩ yX1_mostAlike ∈ lw_g := lwg (List.mem_of_getElem? (i := 809) (by decide +kernel)) rfl
theorem q810 : Cond.instanceMethod yX1_mostAlike ∈ lw_g := lwg (List.mem_of_getElem? (i := 810) (by decide +kernel)) rfl
theorem q811 : Cond.code yX1_mostAlike cX1_mostAlike 6 (some .int) ∈ lw_g := lwg (List.mem_of_getElem? (i := 811) (by decide +kernel)) rfl
theorem q812 : Cond.methodLink RX1 37 yX1_alike ∈ lw_g := lwg (List.mem_of_getElem? (i := 812) (by decide +kernel)) rfl
theorem q814 : Cond.instanceMethod yX1_alike ∈ lw_g := lwg (List.mem_of_getElem? (i := 814) (by decide +kernel)) rfl
theorem q815 : Cond.code yX1_alike cX1_alike 7 (some .int) ∈ lw_g := lwg (List.mem_of_getElem? (i := 815) (by decide +kernel)) rfl
theorem q817 : Cond.selects RX6 ⟨RX1, "bestQuestion", "(I)I"⟩ yX6_bestQuestion ∈ lw_g := lwg (List.mem_of_getElem? (i := 817) (by decide +kernel)) rfl
theorem q818 : Cond.instanceMethod yX6_bestQuestion ∈ lw_g := lwg (List.mem_of_getElem? (i := 818) (by decide +kernel)) rfl
theorem q819 : Cond.code yX6_bestQuestion cX6_bestQuestion 7 (some .int) ∈ lw_g := lwg (List.mem_of_getElem? (i := 819) (by decide +kernel)) rfl
theorem q820 : Cond.methodLink RX6 15 ⟨RX6, "mostAlike", "(III)I"⟩ ∈ lw_g := lwg (List.mem_of_getElem? (i := 820) (by decide +kernel)) rfl
theorem q821 : Cond.sameMethod RX6 RX1 "mostAlike" "(III)I" ∈ lw_g := lwg (List.mem_of_getElem? (i := 821) (by decide +kernel)) rfl
theorem q822 : Cond.selects RX6 ⟨RX6, "mostAlike", "(III)I"⟩ yX1_mostAlike ∈ lw_g := lwg (List.mem_of_getElem? (i := 822) (by decide +kernel)) rfl
theorem q827 : Cond.methodLink RX8 239 ⟨RX2, "fitting", "(LStairManners$Rows;I)I"⟩ ∈ lw_g := lwg (List.mem_of_getElem? (i := 827) (by decide +kernel)) rfl
theorem q828 : Cond.sameMethod RX2 RX1 "fitting" "(LStairManners$Rows;I)I" ∈ lw_g := lwg (List.mem_of_getElem? (i := 828) (by decide +kernel)) rfl
theorem q829 : Cond.selects RX2 ⟨RX2, "fitting", "(LStairManners$Rows;I)I"⟩ yX1_fitting ∈ lw_g := lwg (List.mem_of_getElem? (i := 829) (by decide +kernel)) rfl
theorem q834 : Cond.methodLink RX8 242 ⟨RX2, "nextQuestion", "(LStairManners$Rows;I)I"⟩ ∈ lw_g := lwg (List.mem_of_getElem? (i := 834) (by decide +kernel)) rfl
theorem q835 : Cond.sameMethod RX2 RX1 "nextQuestion" "(LStairManners$Rows;I)I" ∈ lw_g := lwg (List.mem_of_getElem? (i := 835) (by decide +kernel)) rfl
theorem q836 : Cond.selects RX2 ⟨RX2, "nextQuestion", "(LStairManners$Rows;I)I"⟩ yX1_nextQuestion ∈ lw_g := lwg (List.mem_of_getElem? (i := 836) (by decide +kernel)) rfl
theorem q841 : Cond.methodLink RX8 243 yX0_restingPairs ∈ lw_g := lwg (List.mem_of_getElem? (i := 841) (by decide +kernel)) rfl
theorem q842 : Cond.instanceMethod yX0_restingPairs ∈ lw_g := lwg (List.mem_of_getElem? (i := 842) (by decide +kernel)) rfl
theorem q843 : Cond.selects RX0 yX0_restingPairs yX0_restingPairs ∈ lw_g := lwg (List.mem_of_getElem? (i := 843) (by decide +kernel)) rfl
theorem q844 : Cond.code yX0_restingPairs cX0_restingPairs 9 (some .int) ∈ lw_g := lwg (List.mem_of_getElem? (i := 844) (by decide +kernel)) rfl
theorem q845 : Cond.methodLink RX0 143 yX0_hostGets ∈ lw_g := lwg (List.mem_of_getElem? (i := 845) (by decide +kernel)) rfl
theorem q847 : Cond.instanceMethod yX0_hostGets ∈ lw_g := lwg (List.mem_of_getElem? (i := 847) (by decide +kernel)) rfl
theorem q848 : Cond.code yX0_hostGets cX0_hostGets 9 (some .int) ∈ lw_g := lwg (List.mem_of_getElem? (i := 848) (by decide +kernel)) rfl
theorem q853 : Cond.methodLink RX8 247 yX8_oddsOf ∈ lw_g := lwg (List.mem_of_getElem? (i := 853) (by decide +kernel)) rfl
theorem q854 : Cond.static yX8_oddsOf ∈ lw_g := lwg (List.mem_of_getElem? (i := 854) (by decide +kernel)) rfl
theorem q855 : Cond.code yX8_oddsOf cX8_oddsOf 6 (some .long) ∈ lw_g := lwg (List.mem_of_getElem? (i := 855) (by decide +kernel)) rfl
theorem q856 : Cond.methodLink RX8 251 yX8_keepFraction ∈ lw_g := lwg (List.mem_of_getElem? (i := 856) (by decide +kernel)) rfl
theorem q858 : Cond.instanceMethod yX8_keepFraction ∈ lw_g := lwg (List.mem_of_getElem? (i := 858) (by decide +kernel)) rfl
theorem q859 : Cond.code yX8_keepFraction cX8_keepFraction 7 none ∈ lw_g := lwg (List.mem_of_getElem? (i := 859) (by decide +kernel)) rfl
theorem q860 : Cond.methodLink RX8 291 yX8_greatestDivisor ∈ lw_g := lwg (List.mem_of_getElem? (i := 860) (by decide +kernel)) rfl
theorem q861 : Cond.static yX8_greatestDivisor ∈ lw_g := lwg (List.mem_of_getElem? (i := 861) (by decide +kernel)) rfl
theorem q862 : Cond.code yX8_greatestDivisor cX8_greatestDivisor 7 (some .long) ∈ lw_g := lwg (List.mem_of_getElem? (i := 862) (by decide +kernel)) rfl
theorem q867 : Cond.constant RX8 255 (999999 : Int32) ∈ lw_g := lwg (List.mem_of_getElem? (i := 867) (by decide +kernel)) rfl
theorem q868 : Cond.methodLink RX8 256 yX0_copyPeople ∈ lw_g := lwg (List.mem_of_getElem? (i := 868) (by decide +kernel)) rfl
theorem q869 : Cond.constantLong RX8 259 (1103515245 : Int64) ∈ lw_g := lwg (List.mem_of_getElem? (i := 869) (by decide +kernel)) rfl
theorem q870 : Cond.constantLong RX8 261 (12345 : Int64) ∈ lw_g := lwg (List.mem_of_getElem? (i := 870) (by decide +kernel)) rfl
theorem q871 : Cond.constantLong RX8 263 (2147483648 : Int64) ∈ lw_g := lwg (List.mem_of_getElem? (i := 871) (by decide +kernel)) rfl
theorem q872 : Cond.constantLong RX8 265 (65536 : Int64) ∈ lw_g := lwg (List.mem_of_getElem? (i := 872) (by decide +kernel)) rfl
theorem q873 : Cond.constantLong RX8 267 (6 : Int64) ∈ lw_g := lwg (List.mem_of_getElem? (i := 873) (by decide +kernel)) rfl
theorem q874 : Cond.constantLong RX8 269 (1048576 : Int64) ∈ lw_g := lwg (List.mem_of_getElem? (i := 874) (by decide +kernel)) rfl
theorem q875 : Cond.constantLong RX8 271 (8 : Int64) ∈ lw_g := lwg (List.mem_of_getElem? (i := 875) (by decide +kernel)) rfl
theorem q896 : Cond.methodLink RX8 273 yX8_counted ∈ lw_g := lwg (List.mem_of_getElem? (i := 896) (by decide +kernel)) rfl
theorem q898 : Cond.instanceMethod yX8_counted ∈ lw_g := lwg (List.mem_of_getElem? (i := 898) (by decide +kernel)) rfl
theorem q899 : Cond.code yX8_counted cX8_counted 2 (some .int) ∈ lw_g := lwg (List.mem_of_getElem? (i := 899) (by decide +kernel)) rfl
theorem q900 : Cond.methodLink RX8 288 yX5_atTop ∈ lw_g := lwg (List.mem_of_getElem? (i := 900) (by decide +kernel)) rfl
theorem q901 : Cond.instanceMethod yX5_atTop ∈ lw_g := lwg (List.mem_of_getElem? (i := 901) (by decide +kernel)) rfl
theorem q902 : Cond.selects RX5 yX5_atTop yX5_atTop ∈ lw_g := lwg (List.mem_of_getElem? (i := 902) (by decide +kernel)) rfl
theorem q903 : Cond.code yX5_atTop cX5_atTop 3 (some .int) ∈ lw_g := lwg (List.mem_of_getElem? (i := 903) (by decide +kernel)) rfl
theorem q908 : Cond.constantLong RX8 276 (1571 : Int64) ∈ lw_g := lwg (List.mem_of_getElem? (i := 908) (by decide +kernel)) rfl
theorem q909 : Cond.constantLong RX8 278 (31 : Int64) ∈ lw_g := lwg (List.mem_of_getElem? (i := 909) (by decide +kernel)) rfl
theorem q910 : Cond.methodLink RX8 280 yX0_digestOn ∈ lw_g := lwg (List.mem_of_getElem? (i := 910) (by decide +kernel)) rfl
theorem q911 : Cond.instanceMethod yX0_digestOn ∈ lw_g := lwg (List.mem_of_getElem? (i := 911) (by decide +kernel)) rfl
theorem q912 : Cond.selects RX0 yX0_digestOn yX0_digestOn ∈ lw_g := lwg (List.mem_of_getElem? (i := 912) (by decide +kernel)) rfl
theorem q913 : Cond.code yX0_digestOn cX0_digestOn 6 (some .long) ∈ lw_g := lwg (List.mem_of_getElem? (i := 913) (by decide +kernel)) rfl
theorem q914 : Cond.constantLong RX0 147 (31 : Int64) ∈ lw_g := lwg (List.mem_of_getElem? (i := 914) (by decide +kernel)) rfl
theorem q915 : Cond.methodLink RX0 152 yX4_digestOn ∈ lw_g := lwg (List.mem_of_getElem? (i := 915) (by decide +kernel)) rfl
theorem q916 : Cond.instanceMethod yX4_digestOn ∈ lw_g := lwg (List.mem_of_getElem? (i := 916) (by decide +kernel)) rfl
theorem q917 : Cond.selects RX4 yX4_digestOn yX4_digestOn ∈ lw_g := lwg (List.mem_of_getElem? (i := 917) (by decide +kernel)) rfl
theorem q918 : Cond.code yX4_digestOn cX4_digestOn 8 (some .long) ∈ lw_g := lwg (List.mem_of_getElem? (i := 918) (by decide +kernel)) rfl
theorem q919 : Cond.constantLong RX4 23 (31 : Int64) ∈ lw_g := lwg (List.mem_of_getElem? (i := 919) (by decide +kernel)) rfl
theorem q920 : Cond.methodLink RX4 25 yX4_cell ∈ lw_g := lwg (List.mem_of_getElem? (i := 920) (by decide +kernel)) rfl
theorem q927 : Cond.methodLink RX9 66 yX9_begin ∈ lw_g := lwg (List.mem_of_getElem? (i := 927) (by decide +kernel)) rfl
theorem q929 : Cond.instanceMethod yX9_begin ∈ lw_g := lwg (List.mem_of_getElem? (i := 929) (by decide +kernel)) rfl
theorem q930 : Cond.code yX9_begin cX9_begin 2 none ∈ lw_g := lwg (List.mem_of_getElem? (i := 930) (by decide +kernel)) rfl
theorem q931 : Cond.fieldLink RX9 1 RX9 "refused" "[I" ∈ lw_g := lwg (List.mem_of_getElem? (i := 931) (by decide +kernel)) rfl
theorem q932 : Cond.fieldLink RX9 69 RX9 "many" "I" ∈ lw_g := lwg (List.mem_of_getElem? (i := 932) (by decide +kernel)) rfl
theorem q933 : Cond.fieldLink RX9 73 RX9 "minute" "I" ∈ lw_g := lwg (List.mem_of_getElem? (i := 933) (by decide +kernel)) rfl
theorem q934 : Cond.fieldLink RX9 76 RX9 "carpets" "I" ∈ lw_g := lwg (List.mem_of_getElem? (i := 934) (by decide +kernel)) rfl
theorem q935 : Cond.fieldLink RX9 79 RX9 "seenMany" "I" ∈ lw_g := lwg (List.mem_of_getElem? (i := 935) (by decide +kernel)) rfl
theorem q936 : Cond.fieldLink RX9 82 RX9 "noteMany" "I" ∈ lw_g := lwg (List.mem_of_getElem? (i := 936) (by decide +kernel)) rfl
theorem q937 : Cond.fieldLink RX9 85 RX9 "markMany" "I" ∈ lw_g := lwg (List.mem_of_getElem? (i := 937) (by decide +kernel)) rfl
theorem q938 : Cond.fieldLink RX9 13 RX9 "kinds" "[I" ∈ lw_g := lwg (List.mem_of_getElem? (i := 938) (by decide +kernel)) rfl
theorem q939 : Cond.fieldLink RX9 16 RX9 "weights" "[I" ∈ lw_g := lwg (List.mem_of_getElem? (i := 939) (by decide +kernel)) rfl
theorem q940 : Cond.fieldLink RX9 19 RX9 "places" "[I" ∈ lw_g := lwg (List.mem_of_getElem? (i := 940) (by decide +kernel)) rfl
theorem q941 : Cond.fieldLink RX9 22 RX9 "known" "[I" ∈ lw_g := lwg (List.mem_of_getElem? (i := 941) (by decide +kernel)) rfl
theorem q942 : Cond.fieldLink RX9 25 RX9 "steps" "[I" ∈ lw_g := lwg (List.mem_of_getElem? (i := 942) (by decide +kernel)) rfl
theorem q943 : Cond.fieldLink RX9 28 RX9 "seenOnes" "[I" ∈ lw_g := lwg (List.mem_of_getElem? (i := 943) (by decide +kernel)) rfl
theorem q944 : Cond.fieldLink RX9 31 RX9 "noted" "[I" ∈ lw_g := lwg (List.mem_of_getElem? (i := 944) (by decide +kernel)) rfl
theorem q945 : Cond.fieldLink RX9 34 RX9 "marked" "[I" ∈ lw_g := lwg (List.mem_of_getElem? (i := 945) (by decide +kernel)) rfl
theorem q946 : Cond.fieldLink RX9 37 RX9 "text" "[I" ∈ lw_g := lwg (List.mem_of_getElem? (i := 946) (by decide +kernel)) rfl
theorem q947 : Cond.fieldLink RX9 106 RX9 "typed" "I" ∈ lw_g := lwg (List.mem_of_getElem? (i := 947) (by decide +kernel)) rfl
theorem q948 : Cond.fieldLink RX9 109 RX9 "readAt" "I" ∈ lw_g := lwg (List.mem_of_getElem? (i := 948) (by decide +kernel)) rfl
theorem q949 : Cond.fieldLink RX9 132 RX9 "readNumber" "I" ∈ lw_g := lwg (List.mem_of_getElem? (i := 949) (by decide +kernel)) rfl
theorem q950 : Cond.fieldLink RX9 40 RX9 "before" "[I" ∈ lw_g := lwg (List.mem_of_getElem? (i := 950) (by decide +kernel)) rfl
theorem q951 : Cond.fieldLink RX9 43 RX9 "ahead" "[I" ∈ lw_g := lwg (List.mem_of_getElem? (i := 951) (by decide +kernel)) rfl
theorem q952 : Cond.fieldLink RX9 88 RX9 "undoMany" "I" ∈ lw_g := lwg (List.mem_of_getElem? (i := 952) (by decide +kernel)) rfl
theorem q953 : Cond.fieldLink RX9 46 RX9 "aside" "[I" ∈ lw_g := lwg (List.mem_of_getElem? (i := 953) (by decide +kernel)) rfl
theorem q954 : Cond.fieldLink RX9 49 RX9 "may" "[J" ∈ lw_g := lwg (List.mem_of_getElem? (i := 954) (by decide +kernel)) rfl
theorem q955 : Cond.fieldLink RX9 53 RX9 "open" "[I" ∈ lw_g := lwg (List.mem_of_getElem? (i := 955) (by decide +kernel)) rfl
theorem q956 : Cond.fieldLink RX9 274 RX9 "above" "J" ∈ lw_g := lwg (List.mem_of_getElem? (i := 956) (by decide +kernel)) rfl
theorem q957 : Cond.fieldLink RX9 56 RX9 "below" "J" ∈ lw_g := lwg (List.mem_of_getElem? (i := 957) (by decide +kernel)) rfl
theorem q958 : Cond.fieldLink RX9 60 RX9 "images" "[I" ∈ lw_g := lwg (List.mem_of_getElem? (i := 958) (by decide +kernel)) rfl
theorem q959 : Cond.fieldLink RX9 63 RX9 "isKept" "[I" ∈ lw_g := lwg (List.mem_of_getElem? (i := 959) (by decide +kernel)) rfl
theorem q960 : Cond.fieldLink RX9 306 RX9 "h0" "J" ∈ lw_g := lwg (List.mem_of_getElem? (i := 960) (by decide +kernel)) rfl
theorem q1031 : Cond.methodLink RX9 91 yX9_in ∈ lw_g := lwg (List.mem_of_getElem? (i := 1031) (by decide +kernel)) rfl
theorem q1032 : Cond.static yX9_in ∈ lw_g := lwg (List.mem_of_getElem? (i := 1032) (by decide +kernel)) rfl
theorem q1033 : Cond.code yX9_in cX9_in 3 (some .boolean) ∈ lw_g := lwg (List.mem_of_getElem? (i := 1033) (by decide +kernel)) rfl
theorem q1034 : Cond.methodLink RX9 95 yX9_bad ∈ lw_g := lwg (List.mem_of_getElem? (i := 1034) (by decide +kernel)) rfl
theorem q1036 : Cond.instanceMethod yX9_bad ∈ lw_g := lwg (List.mem_of_getElem? (i := 1036) (by decide +kernel)) rfl
theorem q1037 : Cond.code yX9_bad cX9_bad 1 (some .int) ∈ lw_g := lwg (List.mem_of_getElem? (i := 1037) (by decide +kernel)) rfl
theorem q1038 : Cond.methodLink RX9 99 yX9_full ∈ lw_g := lwg (List.mem_of_getElem? (i := 1038) (by decide +kernel)) rfl
theorem q1040 : Cond.instanceMethod yX9_full ∈ lw_g := lwg (List.mem_of_getElem? (i := 1040) (by decide +kernel)) rfl
theorem q1041 : Cond.code yX9_full cX9_full 1 (some .int) ∈ lw_g := lwg (List.mem_of_getElem? (i := 1041) (by decide +kernel)) rfl
theorem q1042 : Cond.methodLink RX9 102 yX9_addOne ∈ lw_g := lwg (List.mem_of_getElem? (i := 1042) (by decide +kernel)) rfl
theorem q1044 : Cond.instanceMethod yX9_addOne ∈ lw_g := lwg (List.mem_of_getElem? (i := 1044) (by decide +kernel)) rfl
theorem q1045 : Cond.code yX9_addOne cX9_addOne 3 (some .int) ∈ lw_g := lwg (List.mem_of_getElem? (i := 1045) (by decide +kernel)) rfl
theorem q1058 : Cond.methodLink RX9 169 yX9_layAll ∈ lw_g := lwg (List.mem_of_getElem? (i := 1058) (by decide +kernel)) rfl
theorem q1060 : Cond.instanceMethod yX9_layAll ∈ lw_g := lwg (List.mem_of_getElem? (i := 1060) (by decide +kernel)) rfl
theorem q1061 : Cond.code yX9_layAll cX9_layAll 4 none ∈ lw_g := lwg (List.mem_of_getElem? (i := 1061) (by decide +kernel)) rfl
theorem q1062 : Cond.methodLink RX9 207 yX9_lays ∈ lw_g := lwg (List.mem_of_getElem? (i := 1062) (by decide +kernel)) rfl
theorem q1064 : Cond.instanceMethod yX9_lays ∈ lw_g := lwg (List.mem_of_getElem? (i := 1064) (by decide +kernel)) rfl
theorem q1065 : Cond.code yX9_lays cX9_lays 4 none ∈ lw_g := lwg (List.mem_of_getElem? (i := 1065) (by decide +kernel)) rfl
theorem q1066 : Cond.methodLink RX9 173 yX9_readsHouse ∈ lw_g := lwg (List.mem_of_getElem? (i := 1066) (by decide +kernel)) rfl
theorem q1068 : Cond.instanceMethod yX9_readsHouse ∈ lw_g := lwg (List.mem_of_getElem? (i := 1068) (by decide +kernel)) rfl
theorem q1069 : Cond.code yX9_readsHouse cX9_readsHouse 2 (some .int) ∈ lw_g := lwg (List.mem_of_getElem? (i := 1069) (by decide +kernel)) rfl
theorem q1070 : Cond.methodLink RX9 163 yX9_readsFirst ∈ lw_g := lwg (List.mem_of_getElem? (i := 1070) (by decide +kernel)) rfl
theorem q1072 : Cond.instanceMethod yX9_readsFirst ∈ lw_g := lwg (List.mem_of_getElem? (i := 1072) (by decide +kernel)) rfl
theorem q1073 : Cond.code yX9_readsFirst cX9_readsFirst 2 (some .boolean) ∈ lw_g := lwg (List.mem_of_getElem? (i := 1073) (by decide +kernel)) rfl
theorem q1074 : Cond.methodLink RX9 126 yX9_skip ∈ lw_g := lwg (List.mem_of_getElem? (i := 1074) (by decide +kernel)) rfl
theorem q1076 : Cond.instanceMethod yX9_skip ∈ lw_g := lwg (List.mem_of_getElem? (i := 1076) (by decide +kernel)) rfl
theorem q1077 : Cond.code yX9_skip cX9_skip 1 none ∈ lw_g := lwg (List.mem_of_getElem? (i := 1077) (by decide +kernel)) rfl
theorem q1078 : Cond.methodLink RX9 112 yX9_here ∈ lw_g := lwg (List.mem_of_getElem? (i := 1078) (by decide +kernel)) rfl
theorem q1080 : Cond.instanceMethod yX9_here ∈ lw_g := lwg (List.mem_of_getElem? (i := 1080) (by decide +kernel)) rfl
theorem q1081 : Cond.code yX9_here cX9_here 1 (some .int) ∈ lw_g := lwg (List.mem_of_getElem? (i := 1081) (by decide +kernel)) rfl
theorem q1082 : Cond.methodLink RX9 147 yX9_wordHere ∈ lw_g := lwg (List.mem_of_getElem? (i := 1082) (by decide +kernel)) rfl
theorem q1084 : Cond.instanceMethod yX9_wordHere ∈ lw_g := lwg (List.mem_of_getElem? (i := 1084) (by decide +kernel)) rfl
theorem q1085 : Cond.code yX9_wordHere cX9_wordHere 3 (some .int) ∈ lw_g := lwg (List.mem_of_getElem? (i := 1085) (by decide +kernel)) rfl
theorem q1086 : Cond.methodLink RX9 119 yX9_wordSize ∈ lw_g := lwg (List.mem_of_getElem? (i := 1086) (by decide +kernel)) rfl
theorem q1088 : Cond.instanceMethod yX9_wordSize ∈ lw_g := lwg (List.mem_of_getElem? (i := 1088) (by decide +kernel)) rfl
theorem q1089 : Cond.code yX9_wordSize cX9_wordSize 2 (some .int) ∈ lw_g := lwg (List.mem_of_getElem? (i := 1089) (by decide +kernel)) rfl
theorem q1090 : Cond.methodLink RX9 115 yX9_isLetter ∈ lw_g := lwg (List.mem_of_getElem? (i := 1090) (by decide +kernel)) rfl
theorem q1091 : Cond.static yX9_isLetter ∈ lw_g := lwg (List.mem_of_getElem? (i := 1091) (by decide +kernel)) rfl
theorem q1092 : Cond.code yX9_isLetter cX9_isLetter 1 (some .boolean) ∈ lw_g := lwg (List.mem_of_getElem? (i := 1092) (by decide +kernel)) rfl
theorem q1093 : Cond.methodLink RX9 122 yX9_letter ∈ lw_g := lwg (List.mem_of_getElem? (i := 1093) (by decide +kernel)) rfl
theorem q1095 : Cond.instanceMethod yX9_letter ∈ lw_g := lwg (List.mem_of_getElem? (i := 1095) (by decide +kernel)) rfl
theorem q1096 : Cond.code yX9_letter cX9_letter 2 (some .int) ∈ lw_g := lwg (List.mem_of_getElem? (i := 1096) (by decide +kernel)) rfl
theorem q1097 : Cond.methodLink RX9 135 yX9_number ∈ lw_g := lwg (List.mem_of_getElem? (i := 1097) (by decide +kernel)) rfl
theorem q1099 : Cond.instanceMethod yX9_number ∈ lw_g := lwg (List.mem_of_getElem? (i := 1099) (by decide +kernel)) rfl
theorem q1100 : Cond.code yX9_number cX9_number 5 (some .boolean) ∈ lw_g := lwg (List.mem_of_getElem? (i := 1100) (by decide +kernel)) rfl
theorem q1101 : Cond.methodLink RX9 129 yX9_isFigure ∈ lw_g := lwg (List.mem_of_getElem? (i := 1101) (by decide +kernel)) rfl
theorem q1102 : Cond.static yX9_isFigure ∈ lw_g := lwg (List.mem_of_getElem? (i := 1102) (by decide +kernel)) rfl
theorem q1103 : Cond.code yX9_isFigure cX9_isFigure 1 (some .boolean) ∈ lw_g := lwg (List.mem_of_getElem? (i := 1103) (by decide +kernel)) rfl
theorem q1104 : Cond.methodLink RX9 139 yX9_ends ∈ lw_g := lwg (List.mem_of_getElem? (i := 1104) (by decide +kernel)) rfl
theorem q1106 : Cond.instanceMethod yX9_ends ∈ lw_g := lwg (List.mem_of_getElem? (i := 1106) (by decide +kernel)) rfl
theorem q1107 : Cond.code yX9_ends cX9_ends 1 (some .boolean) ∈ lw_g := lwg (List.mem_of_getElem? (i := 1107) (by decide +kernel)) rfl
theorem q1108 : Cond.methodLink RX9 166 yX9_readsItem ∈ lw_g := lwg (List.mem_of_getElem? (i := 1108) (by decide +kernel)) rfl
theorem q1110 : Cond.instanceMethod yX9_readsItem ∈ lw_g := lwg (List.mem_of_getElem? (i := 1110) (by decide +kernel)) rfl
theorem q1111 : Cond.code yX9_readsItem cX9_readsItem 2 (some .boolean) ∈ lw_g := lwg (List.mem_of_getElem? (i := 1111) (by decide +kernel)) rfl
theorem q1112 : Cond.methodLink RX9 150 yX9_readsOne ∈ lw_g := lwg (List.mem_of_getElem? (i := 1112) (by decide +kernel)) rfl
theorem q1114 : Cond.instanceMethod yX9_readsOne ∈ lw_g := lwg (List.mem_of_getElem? (i := 1114) (by decide +kernel)) rfl
theorem q1115 : Cond.code yX9_readsOne cX9_readsOne 3 (some .boolean) ∈ lw_g := lwg (List.mem_of_getElem? (i := 1115) (by decide +kernel)) rfl
theorem q1116 : Cond.methodLink RX9 153 yX9_readsCarpet ∈ lw_g := lwg (List.mem_of_getElem? (i := 1116) (by decide +kernel)) rfl
theorem q1118 : Cond.instanceMethod yX9_readsCarpet ∈ lw_g := lwg (List.mem_of_getElem? (i := 1118) (by decide +kernel)) rfl
theorem q1119 : Cond.code yX9_readsCarpet cX9_readsCarpet 1 (some .boolean) ∈ lw_g := lwg (List.mem_of_getElem? (i := 1119) (by decide +kernel)) rfl
theorem q1120 : Cond.methodLink RX9 156 yX9_readsMinutes ∈ lw_g := lwg (List.mem_of_getElem? (i := 1120) (by decide +kernel)) rfl
theorem q1122 : Cond.instanceMethod yX9_readsMinutes ∈ lw_g := lwg (List.mem_of_getElem? (i := 1122) (by decide +kernel)) rfl
theorem q1123 : Cond.code yX9_readsMinutes cX9_readsMinutes 1 (some .boolean) ∈ lw_g := lwg (List.mem_of_getElem? (i := 1123) (by decide +kernel)) rfl
theorem q1124 : Cond.methodLink RX9 143 yX9_goesOn ∈ lw_g := lwg (List.mem_of_getElem? (i := 1124) (by decide +kernel)) rfl
theorem q1126 : Cond.instanceMethod yX9_goesOn ∈ lw_g := lwg (List.mem_of_getElem? (i := 1126) (by decide +kernel)) rfl
theorem q1127 : Cond.code yX9_goesOn cX9_goesOn 3 none ∈ lw_g := lwg (List.mem_of_getElem? (i := 1127) (by decide +kernel)) rfl
theorem q1128 : Cond.methodLink RX9 204 yX9_passes ∈ lw_g := lwg (List.mem_of_getElem? (i := 1128) (by decide +kernel)) rfl
theorem q1130 : Cond.instanceMethod yX9_passes ∈ lw_g := lwg (List.mem_of_getElem? (i := 1130) (by decide +kernel)) rfl
theorem q1131 : Cond.code yX9_passes cX9_passes 3 none ∈ lw_g := lwg (List.mem_of_getElem? (i := 1131) (by decide +kernel)) rfl
theorem q1132 : Cond.methodLink RX9 189 yX9_has ∈ lw_g := lwg (List.mem_of_getElem? (i := 1132) (by decide +kernel)) rfl
theorem q1133 : Cond.static yX9_has ∈ lw_g := lwg (List.mem_of_getElem? (i := 1133) (by decide +kernel)) rfl
theorem q1134 : Cond.code yX9_has cX9_has 2 (some .boolean) ∈ lw_g := lwg (List.mem_of_getElem? (i := 1134) (by decide +kernel)) rfl
theorem q1135 : Cond.methodLink RX9 159 yX9_readsWhere ∈ lw_g := lwg (List.mem_of_getElem? (i := 1135) (by decide +kernel)) rfl
theorem q1137 : Cond.instanceMethod yX9_readsWhere ∈ lw_g := lwg (List.mem_of_getElem? (i := 1137) (by decide +kernel)) rfl
theorem q1138 : Cond.code yX9_readsWhere cX9_readsWhere 3 (some .boolean) ∈ lw_g := lwg (List.mem_of_getElem? (i := 1138) (by decide +kernel)) rfl
theorem q1139 : Cond.methodLink RX9 176 yX9_takeAll ∈ lw_g := lwg (List.mem_of_getElem? (i := 1139) (by decide +kernel)) rfl
theorem q1141 : Cond.instanceMethod yX9_takeAll ∈ lw_g := lwg (List.mem_of_getElem? (i := 1141) (by decide +kernel)) rfl
theorem q1142 : Cond.code yX9_takeAll cX9_takeAll 4 none ∈ lw_g := lwg (List.mem_of_getElem? (i := 1142) (by decide +kernel)) rfl
theorem q1143 : Cond.methodLink RX9 241 yX9_takes ∈ lw_g := lwg (List.mem_of_getElem? (i := 1143) (by decide +kernel)) rfl
theorem q1145 : Cond.instanceMethod yX9_takes ∈ lw_g := lwg (List.mem_of_getElem? (i := 1145) (by decide +kernel)) rfl
theorem q1146 : Cond.code yX9_takes cX9_takes 4 none ∈ lw_g := lwg (List.mem_of_getElem? (i := 1146) (by decide +kernel)) rfl
theorem q1151 : Cond.methodLink RX9 216 yX9_isOne ∈ lw_g := lwg (List.mem_of_getElem? (i := 1151) (by decide +kernel)) rfl
theorem q1153 : Cond.instanceMethod yX9_isOne ∈ lw_g := lwg (List.mem_of_getElem? (i := 1153) (by decide +kernel)) rfl
theorem q1154 : Cond.code yX9_isOne cX9_isOne 2 (some .boolean) ∈ lw_g := lwg (List.mem_of_getElem? (i := 1154) (by decide +kernel)) rfl
theorem q1155 : Cond.methodLink RX9 219 yX9_isStep ∈ lw_g := lwg (List.mem_of_getElem? (i := 1155) (by decide +kernel)) rfl
theorem q1156 : Cond.static yX9_isStep ∈ lw_g := lwg (List.mem_of_getElem? (i := 1156) (by decide +kernel)) rfl
theorem q1157 : Cond.code yX9_isStep cX9_isStep 1 (some .boolean) ∈ lw_g := lwg (List.mem_of_getElem? (i := 1157) (by decide +kernel)) rfl
theorem q1158 : Cond.methodLink RX9 222 yX9_no ∈ lw_g := lwg (List.mem_of_getElem? (i := 1158) (by decide +kernel)) rfl
theorem q1160 : Cond.instanceMethod yX9_no ∈ lw_g := lwg (List.mem_of_getElem? (i := 1160) (by decide +kernel)) rfl
theorem q1161 : Cond.code yX9_no cX9_no 1 (some .int) ∈ lw_g := lwg (List.mem_of_getElem? (i := 1161) (by decide +kernel)) rfl
theorem q1162 : Cond.methodLink RX9 225 yX9_notes ∈ lw_g := lwg (List.mem_of_getElem? (i := 1162) (by decide +kernel)) rfl
theorem q1164 : Cond.instanceMethod yX9_notes ∈ lw_g := lwg (List.mem_of_getElem? (i := 1164) (by decide +kernel)) rfl
theorem q1165 : Cond.code yX9_notes cX9_notes 2 none ∈ lw_g := lwg (List.mem_of_getElem? (i := 1165) (by decide +kernel)) rfl
theorem q1166 : Cond.methodLink RX9 228 yX9_learns ∈ lw_g := lwg (List.mem_of_getElem? (i := 1166) (by decide +kernel)) rfl
theorem q1168 : Cond.instanceMethod yX9_learns ∈ lw_g := lwg (List.mem_of_getElem? (i := 1168) (by decide +kernel)) rfl
theorem q1169 : Cond.code yX9_learns cX9_learns 3 none ∈ lw_g := lwg (List.mem_of_getElem? (i := 1169) (by decide +kernel)) rfl
theorem q1170 : Cond.methodLink RX9 210 yX9_dayMinute ∈ lw_g := lwg (List.mem_of_getElem? (i := 1170) (by decide +kernel)) rfl
theorem q1172 : Cond.instanceMethod yX9_dayMinute ∈ lw_g := lwg (List.mem_of_getElem? (i := 1172) (by decide +kernel)) rfl
theorem q1173 : Cond.code yX9_dayMinute cX9_dayMinute 1 (some .int) ∈ lw_g := lwg (List.mem_of_getElem? (i := 1173) (by decide +kernel)) rfl
theorem q1174 : Cond.methodLink RX9 213 yX9_mayMeet ∈ lw_g := lwg (List.mem_of_getElem? (i := 1174) (by decide +kernel)) rfl
theorem q1176 : Cond.instanceMethod yX9_mayMeet ∈ lw_g := lwg (List.mem_of_getElem? (i := 1176) (by decide +kernel)) rfl
theorem q1177 : Cond.code yX9_mayMeet cX9_mayMeet 4 (some .boolean) ∈ lw_g := lwg (List.mem_of_getElem? (i := 1177) (by decide +kernel)) rfl
theorem q1178 : Cond.methodLink RX9 195 yX9_wordFor ∈ lw_g := lwg (List.mem_of_getElem? (i := 1178) (by decide +kernel)) rfl
theorem q1180 : Cond.instanceMethod yX9_wordFor ∈ lw_g := lwg (List.mem_of_getElem? (i := 1180) (by decide +kernel)) rfl
theorem q1181 : Cond.code yX9_wordFor cX9_wordFor 6 (some .int) ∈ lw_g := lwg (List.mem_of_getElem? (i := 1181) (by decide +kernel)) rfl
theorem q1182 : Cond.methodLink RX9 192 yX9_worth ∈ lw_g := lwg (List.mem_of_getElem? (i := 1182) (by decide +kernel)) rfl
theorem q1184 : Cond.instanceMethod yX9_worth ∈ lw_g := lwg (List.mem_of_getElem? (i := 1184) (by decide +kernel)) rfl
theorem q1185 : Cond.code yX9_worth cX9_worth 3 (some .int) ∈ lw_g := lwg (List.mem_of_getElem? (i := 1185) (by decide +kernel)) rfl
theorem q1186 : Cond.methodLink RX9 186 yX9_worthBy ∈ lw_g := lwg (List.mem_of_getElem? (i := 1186) (by decide +kernel)) rfl
theorem q1187 : Cond.static yX9_worthBy ∈ lw_g := lwg (List.mem_of_getElem? (i := 1187) (by decide +kernel)) rfl
theorem q1188 : Cond.code yX9_worthBy cX9_worthBy 3 (some .int) ∈ lw_g := lwg (List.mem_of_getElem? (i := 1188) (by decide +kernel)) rfl
theorem q1189 : Cond.methodLink RX9 198 yX9_wants ∈ lw_g := lwg (List.mem_of_getElem? (i := 1189) (by decide +kernel)) rfl
theorem q1191 : Cond.instanceMethod yX9_wants ∈ lw_g := lwg (List.mem_of_getElem? (i := 1191) (by decide +kernel)) rfl
theorem q1192 : Cond.code yX9_wants cX9_wants 4 (some .int) ∈ lw_g := lwg (List.mem_of_getElem? (i := 1192) (by decide +kernel)) rfl
theorem q1193 : Cond.methodLink RX9 182 yX9_wantsBy ∈ lw_g := lwg (List.mem_of_getElem? (i := 1193) (by decide +kernel)) rfl
theorem q1194 : Cond.static yX9_wantsBy ∈ lw_g := lwg (List.mem_of_getElem? (i := 1194) (by decide +kernel)) rfl
theorem q1195 : Cond.code yX9_wantsBy cX9_wantsBy 4 (some .int) ∈ lw_g := lwg (List.mem_of_getElem? (i := 1195) (by decide +kernel)) rfl
theorem q1196 : Cond.methodLink RX9 179 yX9_lesser ∈ lw_g := lwg (List.mem_of_getElem? (i := 1196) (by decide +kernel)) rfl
theorem q1197 : Cond.static yX9_lesser ∈ lw_g := lwg (List.mem_of_getElem? (i := 1197) (by decide +kernel)) rfl
theorem q1198 : Cond.code yX9_lesser cX9_lesser 2 (some .int) ∈ lw_g := lwg (List.mem_of_getElem? (i := 1198) (by decide +kernel)) rfl
theorem q1203 : Cond.methodLink RX9 232 yX9_tenBad ∈ lw_g := lwg (List.mem_of_getElem? (i := 1203) (by decide +kernel)) rfl
theorem q1205 : Cond.instanceMethod yX9_tenBad ∈ lw_g := lwg (List.mem_of_getElem? (i := 1205) (by decide +kernel)) rfl
theorem q1206 : Cond.code yX9_tenBad cX9_tenBad 1 (some .int) ∈ lw_g := lwg (List.mem_of_getElem? (i := 1206) (by decide +kernel)) rfl
theorem q1211 : Cond.methodLink RX9 235 yX9_knownAll ∈ lw_g := lwg (List.mem_of_getElem? (i := 1211) (by decide +kernel)) rfl
theorem q1213 : Cond.instanceMethod yX9_knownAll ∈ lw_g := lwg (List.mem_of_getElem? (i := 1213) (by decide +kernel)) rfl
theorem q1214 : Cond.code yX9_knownAll cX9_knownAll 3 (some .int) ∈ lw_g := lwg (List.mem_of_getElem? (i := 1214) (by decide +kernel)) rfl
theorem q1215 : Cond.methodLink RX9 201 yX9_bits ∈ lw_g := lwg (List.mem_of_getElem? (i := 1215) (by decide +kernel)) rfl
theorem q1216 : Cond.static yX9_bits ∈ lw_g := lwg (List.mem_of_getElem? (i := 1216) (by decide +kernel)) rfl
theorem q1217 : Cond.code yX9_bits cX9_bits 3 (some .int) ∈ lw_g := lwg (List.mem_of_getElem? (i := 1217) (by decide +kernel)) rfl
theorem q1226 : Cond.methodLink RX9 238 yX9_whoKnows ∈ lw_g := lwg (List.mem_of_getElem? (i := 1226) (by decide +kernel)) rfl
theorem q1228 : Cond.instanceMethod yX9_whoKnows ∈ lw_g := lwg (List.mem_of_getElem? (i := 1228) (by decide +kernel)) rfl
theorem q1229 : Cond.code yX9_whoKnows cX9_whoKnows 4 (some .int) ∈ lw_g := lwg (List.mem_of_getElem? (i := 1229) (by decide +kernel)) rfl
theorem q1266 : Cond.methodLink RX9 247 yX9_setMay ∈ lw_g := lwg (List.mem_of_getElem? (i := 1266) (by decide +kernel)) rfl
theorem q1268 : Cond.instanceMethod yX9_setMay ∈ lw_g := lwg (List.mem_of_getElem? (i := 1268) (by decide +kernel)) rfl
theorem q1269 : Cond.code yX9_setMay cX9_setMay 6 none ∈ lw_g := lwg (List.mem_of_getElem? (i := 1269) (by decide +kernel)) rfl
theorem q1270 : Cond.methodLink RX9 244 yX9_isMay ∈ lw_g := lwg (List.mem_of_getElem? (i := 1270) (by decide +kernel)) rfl
theorem q1272 : Cond.instanceMethod yX9_isMay ∈ lw_g := lwg (List.mem_of_getElem? (i := 1272) (by decide +kernel)) rfl
theorem q1273 : Cond.code yX9_isMay cX9_isMay 3 (some .boolean) ∈ lw_g := lwg (List.mem_of_getElem? (i := 1273) (by decide +kernel)) rfl
theorem q1274 : Cond.methodLink RX9 250 yX9_does ∈ lw_g := lwg (List.mem_of_getElem? (i := 1274) (by decide +kernel)) rfl
theorem q1276 : Cond.instanceMethod yX9_does ∈ lw_g := lwg (List.mem_of_getElem? (i := 1276) (by decide +kernel)) rfl
theorem q1277 : Cond.code yX9_does cX9_does 4 (some .int) ∈ lw_g := lwg (List.mem_of_getElem? (i := 1277) (by decide +kernel)) rfl
theorem q1286 : Cond.methodLink RX9 253 yX9_mayKnow ∈ lw_g := lwg (List.mem_of_getElem? (i := 1286) (by decide +kernel)) rfl
theorem q1288 : Cond.instanceMethod yX9_mayKnow ∈ lw_g := lwg (List.mem_of_getElem? (i := 1288) (by decide +kernel)) rfl
theorem q1289 : Cond.code yX9_mayKnow cX9_mayKnow 8 (some .boolean) ∈ lw_g := lwg (List.mem_of_getElem? (i := 1289) (by decide +kernel)) rfl
theorem q1306 : Cond.methodLink RX9 256 yX9_stepKinds ∈ lw_g := lwg (List.mem_of_getElem? (i := 1306) (by decide +kernel)) rfl
theorem q1308 : Cond.instanceMethod yX9_stepKinds ∈ lw_g := lwg (List.mem_of_getElem? (i := 1308) (by decide +kernel)) rfl
theorem q1309 : Cond.code yX9_stepKinds cX9_stepKinds 7 (some .int) ∈ lw_g := lwg (List.mem_of_getElem? (i := 1309) (by decide +kernel)) rfl
theorem q1314 : Cond.methodLink RX9 259 yX9_peopleKinds ∈ lw_g := lwg (List.mem_of_getElem? (i := 1314) (by decide +kernel)) rfl
theorem q1316 : Cond.instanceMethod yX9_peopleKinds ∈ lw_g := lwg (List.mem_of_getElem? (i := 1316) (by decide +kernel)) rfl
theorem q1317 : Cond.code yX9_peopleKinds cX9_peopleKinds 7 (some .int) ∈ lw_g := lwg (List.mem_of_getElem? (i := 1317) (by decide +kernel)) rfl
theorem q1322 : Cond.constant RX9 265 (1048576 : Int32) ∈ lw_g := lwg (List.mem_of_getElem? (i := 1322) (by decide +kernel)) rfl
theorem q1323 : Cond.methodLink RX9 266 yX9_alike ∈ lw_g := lwg (List.mem_of_getElem? (i := 1323) (by decide +kernel)) rfl
theorem q1324 : Cond.static yX9_alike ∈ lw_g := lwg (List.mem_of_getElem? (i := 1324) (by decide +kernel)) rfl
theorem q1325 : Cond.code yX9_alike cX9_alike 10 (some .int) ∈ lw_g := lwg (List.mem_of_getElem? (i := 1325) (by decide +kernel)) rfl
theorem q1326 : Cond.methodLink RX9 262 yX9_greater ∈ lw_g := lwg (List.mem_of_getElem? (i := 1326) (by decide +kernel)) rfl
theorem q1327 : Cond.static yX9_greater ∈ lw_g := lwg (List.mem_of_getElem? (i := 1327) (by decide +kernel)) rfl
theorem q1328 : Cond.code yX9_greater cX9_greater 2 (some .int) ∈ lw_g := lwg (List.mem_of_getElem? (i := 1328) (by decide +kernel)) rfl
theorem q1337 : Cond.methodLink RX9 270 yX9_gets ∈ lw_g := lwg (List.mem_of_getElem? (i := 1337) (by decide +kernel)) rfl
theorem q1339 : Cond.instanceMethod yX9_gets ∈ lw_g := lwg (List.mem_of_getElem? (i := 1339) (by decide +kernel)) rfl
theorem q1340 : Cond.code yX9_gets cX9_gets 11 (some .int) ∈ lw_g := lwg (List.mem_of_getElem? (i := 1340) (by decide +kernel)) rfl
theorem q1345 : Cond.constantLong RX9 277 (10 : Int64) ∈ lw_g := lwg (List.mem_of_getElem? (i := 1345) (by decide +kernel)) rfl
theorem q1346 : Cond.methodLink RX9 279 yX9_lay ∈ lw_g := lwg (List.mem_of_getElem? (i := 1346) (by decide +kernel)) rfl
theorem q1348 : Cond.instanceMethod yX9_lay ∈ lw_g := lwg (List.mem_of_getElem? (i := 1348) (by decide +kernel)) rfl
theorem q1349 : Cond.code yX9_lay cX9_lay 11 none ∈ lw_g := lwg (List.mem_of_getElem? (i := 1349) (by decide +kernel)) rfl
theorem q1354 : Cond.constant RX9 283 (999999 : Int32) ∈ lw_g := lwg (List.mem_of_getElem? (i := 1354) (by decide +kernel)) rfl
theorem q1355 : Cond.constantLong RX9 284 (1103515245 : Int64) ∈ lw_g := lwg (List.mem_of_getElem? (i := 1355) (by decide +kernel)) rfl
theorem q1356 : Cond.constantLong RX9 286 (12345 : Int64) ∈ lw_g := lwg (List.mem_of_getElem? (i := 1356) (by decide +kernel)) rfl
theorem q1357 : Cond.constantLong RX9 288 (2147483648 : Int64) ∈ lw_g := lwg (List.mem_of_getElem? (i := 1357) (by decide +kernel)) rfl
theorem q1358 : Cond.constantLong RX9 290 (65536 : Int64) ∈ lw_g := lwg (List.mem_of_getElem? (i := 1358) (by decide +kernel)) rfl
theorem q1359 : Cond.constantLong RX9 292 (6 : Int64) ∈ lw_g := lwg (List.mem_of_getElem? (i := 1359) (by decide +kernel)) rfl
theorem q1360 : Cond.constantLong RX9 294 (1048576 : Int64) ∈ lw_g := lwg (List.mem_of_getElem? (i := 1360) (by decide +kernel)) rfl
theorem q1361 : Cond.constantLong RX9 296 (8 : Int64) ∈ lw_g := lwg (List.mem_of_getElem? (i := 1361) (by decide +kernel)) rfl
theorem q1382 : Cond.methodLink RX9 301 yX9_countOf ∈ lw_g := lwg (List.mem_of_getElem? (i := 1382) (by decide +kernel)) rfl
theorem q1384 : Cond.instanceMethod yX9_countOf ∈ lw_g := lwg (List.mem_of_getElem? (i := 1384) (by decide +kernel)) rfl
theorem q1385 : Cond.code yX9_countOf cX9_countOf 2 (some .int) ∈ lw_g := lwg (List.mem_of_getElem? (i := 1385) (by decide +kernel)) rfl
theorem q1386 : Cond.methodLink RX9 298 yX9_topMany ∈ lw_g := lwg (List.mem_of_getElem? (i := 1386) (by decide +kernel)) rfl
theorem q1388 : Cond.instanceMethod yX9_topMany ∈ lw_g := lwg (List.mem_of_getElem? (i := 1388) (by decide +kernel)) rfl
theorem q1389 : Cond.code yX9_topMany cX9_topMany 3 (some .int) ∈ lw_g := lwg (List.mem_of_getElem? (i := 1389) (by decide +kernel)) rfl
theorem q1394 : Cond.constantLong RX9 309 (1571 : Int64) ∈ lw_g := lwg (List.mem_of_getElem? (i := 1394) (by decide +kernel)) rfl
theorem q1395 : Cond.methodLink RX9 311 yX9_mix ∈ lw_g := lwg (List.mem_of_getElem? (i := 1395) (by decide +kernel)) rfl
theorem q1397 : Cond.instanceMethod yX9_mix ∈ lw_g := lwg (List.mem_of_getElem? (i := 1397) (by decide +kernel)) rfl
theorem q1398 : Cond.code yX9_mix cX9_mix 3 none ∈ lw_g := lwg (List.mem_of_getElem? (i := 1398) (by decide +kernel)) rfl
theorem q1399 : Cond.constantLong RX9 304 (31 : Int64) ∈ lw_g := lwg (List.mem_of_getElem? (i := 1399) (by decide +kernel)) rfl
theorem q1400 : Cond.sameMethod RX1 RX1 "fits" "(ILStairManners$Rows;I)Z" ∈ lw_g := lwg (List.mem_of_getElem? (i := 1400) (by decide +kernel)) rfl
theorem q1401 : Cond.sameMethod RX1 RX1 "fitting" "(LStairManners$Rows;I)I" ∈ lw_g := lwg (List.mem_of_getElem? (i := 1401) (by decide +kernel)) rfl
theorem q1402 : Cond.selects RX2 yX1_fitting yX1_fitting ∈ lw_g := lwg (List.mem_of_getElem? (i := 1402) (by decide +kernel)) rfl
theorem q1403 : Cond.selects RX6 yX1_fitting yX1_fitting ∈ lw_g := lwg (List.mem_of_getElem? (i := 1403) (by decide +kernel)) rfl
theorem q1404 : Cond.sameMethod RX1 RX1 "alike" "(IIII)I" ∈ lw_g := lwg (List.mem_of_getElem? (i := 1404) (by decide +kernel)) rfl
end Words
