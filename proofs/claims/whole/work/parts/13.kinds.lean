section
def rm_X2_answer : Room := { frames := 0, cells := 0, slots := 0, locals := 0 }
def f_X2_answer (E : Env1) (M : Mem) (v0 : Nat) (v1 : Int32) (v2 : Int32) (v3 : Int32) : Int32 :=
  if v1 = 0 then (1 : Int32)
  else if v1 = 1 then ((1 : Int32) + (1 : Int32))
  else if v1 = 2 then (
    if v3 < (18 : Int32) then (1 : Int32) else (0 : Int32))
  else if v1 = 3 then (
    if v2 = (-1 : Int32) then ((1 : Int32) + (1 : Int32)) - (1 : Int32) else (1 : Int32) + (1 : Int32))
  else if v1 = 4 then (
    if (v3 - v3 / (2 : Int32) * (2 : Int32)) = (1 : Int32) then (1 : Int32) else (0 : Int32))
  else (
    if v3 < (18 : Int32) then (1 : Int32) + (1 : Int32) else (2 : Int32) * ((1 : Int32) + (1 : Int32)))
set_option maxRecDepth 100000 in
set_option maxHeartbeats 4000000 in
theorem ok_X2_answer {E : Env1} (hE : WF E) (l0 : Launch) {M : Mem} {v0 : Nat} {v1 : Int32} {v2 : Int32} {v3 : Int32} {r : Int32} (h0 : isK E v0 1) (hf : f_X2_answer E M v0 v1 v2 v3 = r) : Met l0 yX2_answer (wsA yX2_answer cX2_answer 6 (some .int)) rm_X2_answer (CP E M [.ref v0, .int v1, .int v2, .int v3]) (CQi E r M) 0 0 (eA E) := by
  unfold f_X2_answer at hf
  refine mtI l0 (by decide +kernel) (Nat.le_of_ble_eq_true rfl) (L0 := [some (.ref v0), some (.int v1), some (.int v2), some (.int v3), none, none]) rfl (fun X h hR => ?_)
  refine G_iconst h dX2_answer_0 ki_1 rfl ?_
  refine G_istore h dX2_answer_1  (by decide) (L' := [some (.ref v0), some (.int v1), some (.int v2), some (.int v3), some (.int (1 : Int32)), none]) rfl rfl ?_
  refine G_iload h dX2_answer_3 rfl rfl ?_
  refine G_iconst h dX2_answer_5 ki_1 rfl ?_
  refine G_iadd h dX2_answer_6 rfl ?_
  refine G_istore h dX2_answer_7  (by decide) (L' := [some (.ref v0), some (.int v1), some (.int v2), some (.int v3), some (.int (1 : Int32)), some (.int ((1 : Int32) + (1 : Int32)))]) rfl rfl ?_
  refine G_iload_n h dX2_answer_9 (i := 1) rfl rfl rfl ?_
  by_cases c1 : v1 = 0
  · have hf := it_t c1 hf
    refine G_tsIn h dX2_answer_10 c1 (v := 0) (j := 0) (by decide) (by decide) rfl (tgt := 44) (by decide) ?_
    refine G_iload h dX2_answer_44 rfl rfl ?_
    exact toI hR dX2_answer_46 hf
  have hf := it_f c1 hf
  by_cases c2 : v1 = 1
  · have hf := it_t c2 hf
    refine G_tsIn h dX2_answer_10 c2 (v := 1) (j := 1) (by decide) (by decide) rfl (tgt := 47) (by decide) ?_
    refine G_iload h dX2_answer_47 rfl rfl ?_
    exact toI hR dX2_answer_49 hf
  have hf := it_f c2 hf
  by_cases c3 : v1 = 2
  · have hf := it_t c3 hf
    refine G_tsIn h dX2_answer_10 c3 (v := 2) (j := 2) (by decide) (by decide) rfl (tgt := 50) (by decide) ?_
    refine G_iload_n h dX2_answer_50 (i := 3) rfl rfl rfl ?_
    refine G_bipush h dX2_answer_51 kb_18 rfl ?_
    have hJ : G X E (0, 0) 62 [some (.ref v0), some (.int v1), some (.int v2), some (.int v3), some (.int (1 : Int32)), some (.int ((1 : Int32) + (1 : Int32)))] [.int (if v3 < (18 : Int32) then (1 : Int32) else (0 : Int32))] M := by
      exact toI hR dX2_answer_62 hf
    refine G_icmp_lt h dX2_answer_53 (tgt := 60) (by decide) rfl (fun c4 => ?_) (fun c4 => ?_)
    · refine G_iload h dX2_answer_60 rfl rfl ?_
      exact G_ifp c4 hJ
    · refine G_iconst h dX2_answer_56 ki_0 rfl ?_
      refine G_goto h dX2_answer_57 (tgt := 62) (by decide) ?_
      exact G_ifn c4 hJ
  have hf := it_f c3 hf
  by_cases c5 : v1 = 3
  · have hf := it_t c5 hf
    refine G_tsIn h dX2_answer_10 c5 (v := 3) (j := 3) (by decide) (by decide) rfl (tgt := 63) (by decide) ?_
    refine G_iload_n h dX2_answer_63 (i := 2) rfl rfl rfl ?_
    refine G_iconst h dX2_answer_64 ki_m1 rfl ?_
    have hJ : G X E (0, 0) 77 [some (.ref v0), some (.int v1), some (.int v2), some (.int v3), some (.int (1 : Int32)), some (.int ((1 : Int32) + (1 : Int32)))] [.int (if v2 = (-1 : Int32) then ((1 : Int32) + (1 : Int32)) - (1 : Int32) else (1 : Int32) + (1 : Int32))] M := by
      exact toI hR dX2_answer_77 hf
    refine G_icmp_ne h dX2_answer_65 (tgt := 75) (by decide) rfl (fun c6 => ?_) (fun c6 => ?_)
    · refine G_iload h dX2_answer_75 rfl rfl ?_
      exact G_ifn c6 hJ
    · refine G_iload h dX2_answer_68 rfl rfl ?_
      refine G_iconst h dX2_answer_70 ki_1 rfl ?_
      refine G_isub h dX2_answer_71 rfl ?_
      refine G_goto h dX2_answer_72 (tgt := 77) (by decide) ?_
      exact G_ifp c6 hJ
  have hf := it_f c5 hf
  by_cases c7 : v1 = 4
  · have hf := it_t c7 hf
    refine G_tsIn h dX2_answer_10 c7 (v := 4) (j := 4) (by decide) (by decide) rfl (tgt := 78) (by decide) ?_
    refine G_iload_n h dX2_answer_78 (i := 3) rfl rfl rfl ?_
    refine G_iconst h dX2_answer_79 ki_2 rfl ?_
    refine G_irem h dX2_answer_80 (by decide) rfl ?_
    refine G_iconst h dX2_answer_81 ki_1 rfl ?_
    have hJ : G X E (0, 0) 91 [some (.ref v0), some (.int v1), some (.int v2), some (.int v3), some (.int (1 : Int32)), some (.int ((1 : Int32) + (1 : Int32)))] [.int (if (v3 - v3 / (2 : Int32) * (2 : Int32)) = (1 : Int32) then (1 : Int32) else (0 : Int32))] M := by
      exact toI hR dX2_answer_91 hf
    refine G_icmp_ne h dX2_answer_82 (tgt := 90) (by decide) rfl (fun c8 => ?_) (fun c8 => ?_)
    · refine G_iconst h dX2_answer_90 ki_0 rfl ?_
      exact G_ifn c8 hJ
    · refine G_iload h dX2_answer_85 rfl rfl ?_
      refine G_goto h dX2_answer_87 (tgt := 91) (by decide) ?_
      exact G_ifp c8 hJ
  have hf := it_f c7 hf
  have nc1 := ne_lit c1 (n := 0) (by decide)
  have nc2 := ne_lit c2 (n := 1) (by decide)
  have nc3 := ne_lit c3 (n := 2) (by decide)
  have nc5 := ne_lit c5 (n := 3) (by decide)
  have nc7 := ne_lit c7 (n := 4) (by decide)
  refine G_tsOut h dX2_answer_10 (by omega) (tgt := 92) (by decide) ?_
  refine G_iload_n h dX2_answer_92 (i := 3) rfl rfl rfl ?_
  refine G_bipush h dX2_answer_93 kb_18 rfl ?_
  have hJ : G X E (0, 0) 107 [some (.ref v0), some (.int v1), some (.int v2), some (.int v3), some (.int (1 : Int32)), some (.int ((1 : Int32) + (1 : Int32)))] [.int (if v3 < (18 : Int32) then (1 : Int32) + (1 : Int32) else (2 : Int32) * ((1 : Int32) + (1 : Int32)))] M := by
    exact toI hR dX2_answer_107 hf
  refine G_icmp_lt h dX2_answer_95 (tgt := 105) (by decide) rfl (fun c9 => ?_) (fun c9 => ?_)
  · refine G_iload h dX2_answer_105 rfl rfl ?_
    exact G_ifp c9 hJ
  · refine G_iconst h dX2_answer_98 ki_2 rfl ?_
    refine G_iload h dX2_answer_99 rfl rfl ?_
    refine G_imul h dX2_answer_101 rfl ?_
    refine G_goto h dX2_answer_102 (tgt := 107) (by decide) ?_
    exact G_ifn c9 hJ
def rm_X6_answer : Room := { frames := 1, cells := 0, slots := 0, locals := 21 }
def f_X6_answer (E : Env1) (M : Mem) (v0 : Nat) (v1 : Int32) (v2 : Int32) (v3 : Int32) : Int32 :=
  nm ((1 : Int32) + (v2 / (4 : Int32))) fun x1 =>
  if v1 = 0 then (1 : Int32)
  else if v1 = 1 then ((1 : Int32) + (1 : Int32))
  else if v1 = 2 then x1
  else if v1 = 3 then (
    if (v3 - v3 / (2 : Int32) * (2 : Int32)) = (1 : Int32) then ((1 : Int32) + (1 : Int32)) + (2 : Int32) else (1 : Int32) + (1 : Int32))
  else if v1 = 4 then (
    if (5 : Int32) < v2 then (1 : Int32) else (0 : Int32))
  else (jmin ((2 : Int32) * x1) (5 : Int32))
set_option maxRecDepth 100000 in
set_option maxHeartbeats 4000000 in
theorem ok_X6_answer {E : Env1} (hE : WF E) (l0 : Launch) {M : Mem} {v0 : Nat} {v1 : Int32} {v2 : Int32} {v3 : Int32} {r : Int32} (h0 : isK E v0 5) (hf : f_X6_answer E M v0 v1 v2 v3 = r) : Met l0 yX6_answer (wsA yX6_answer cX6_answer 7 (some .int)) rm_X6_answer (CP E M [.ref v0, .int v1, .int v2, .int v3]) (CQi E r M) 0 0 (eA E) := by
  unfold f_X6_answer at hf
  refine mtI l0 (by decide +kernel) (Nat.le_of_ble_eq_true rfl) (L0 := [some (.ref v0), some (.int v1), some (.int v2), some (.int v3), none, none, none]) rfl (fun X h hR => ?_)
  refine G_iconst h dX6_answer_0 ki_1 rfl ?_
  refine G_istore h dX6_answer_1  (by decide) (L' := [some (.ref v0), some (.int v1), some (.int v2), some (.int v3), some (.int (1 : Int32)), none, none]) rfl rfl ?_
  refine G_iload h dX6_answer_3 rfl rfl ?_
  refine G_iconst h dX6_answer_5 ki_1 rfl ?_
  refine G_iadd h dX6_answer_6 rfl ?_
  refine G_istore h dX6_answer_7  (by decide) (L' := [some (.ref v0), some (.int v1), some (.int v2), some (.int v3), some (.int (1 : Int32)), some (.int ((1 : Int32) + (1 : Int32))), none]) rfl rfl ?_
  refine G_iload h dX6_answer_9 rfl rfl ?_
  refine G_iload_n h dX6_answer_11 (i := 2) rfl rfl rfl ?_
  refine G_iconst h dX6_answer_12 ki_4 rfl ?_
  refine G_idiv h dX6_answer_13 (by decide) rfl ?_
  refine G_iadd h dX6_answer_14 rfl ?_
  refine G_nmi (fun x1 hx1 => ?_)
  have hf := nm_eq hx1 hf
  refine G_istore h dX6_answer_15  (by decide) (L' := [some (.ref v0), some (.int v1), some (.int v2), some (.int v3), some (.int (1 : Int32)), some (.int ((1 : Int32) + (1 : Int32))), some (.int x1)]) rfl rfl ?_
  refine G_iload_n h dX6_answer_17 (i := 1) rfl rfl rfl ?_
  by_cases c2 : v1 = 0
  · have hf := it_t c2 hf
    refine G_tsIn h dX6_answer_18 c2 (v := 0) (j := 0) (by decide) (by decide) rfl (tgt := 52) (by decide) ?_
    refine G_iload h dX6_answer_52 rfl rfl ?_
    exact toI hR dX6_answer_54 hf
  have hf := it_f c2 hf
  by_cases c3 : v1 = 1
  · have hf := it_t c3 hf
    refine G_tsIn h dX6_answer_18 c3 (v := 1) (j := 1) (by decide) (by decide) rfl (tgt := 55) (by decide) ?_
    refine G_iload h dX6_answer_55 rfl rfl ?_
    exact toI hR dX6_answer_57 hf
  have hf := it_f c3 hf
  by_cases c4 : v1 = 2
  · have hf := it_t c4 hf
    refine G_tsIn h dX6_answer_18 c4 (v := 2) (j := 2) (by decide) (by decide) rfl (tgt := 58) (by decide) ?_
    refine G_iload h dX6_answer_58 rfl rfl ?_
    exact toI hR dX6_answer_60 hf
  have hf := it_f c4 hf
  by_cases c5 : v1 = 3
  · have hf := it_t c5 hf
    refine G_tsIn h dX6_answer_18 c5 (v := 3) (j := 3) (by decide) (by decide) rfl (tgt := 61) (by decide) ?_
    refine G_iload_n h dX6_answer_61 (i := 3) rfl rfl rfl ?_
    refine G_iconst h dX6_answer_62 ki_2 rfl ?_
    refine G_irem h dX6_answer_63 (by decide) rfl ?_
    refine G_iconst h dX6_answer_64 ki_1 rfl ?_
    have hJ : G X E (0, 0) 77 [some (.ref v0), some (.int v1), some (.int v2), some (.int v3), some (.int (1 : Int32)), some (.int ((1 : Int32) + (1 : Int32))), some (.int x1)] [.int (if (v3 - v3 / (2 : Int32) * (2 : Int32)) = (1 : Int32) then ((1 : Int32) + (1 : Int32)) + (2 : Int32) else (1 : Int32) + (1 : Int32))] M := by
      exact toI hR dX6_answer_77 hf
    refine G_icmp_ne h dX6_answer_65 (tgt := 75) (by decide) rfl (fun c6 => ?_) (fun c6 => ?_)
    · refine G_iload h dX6_answer_75 rfl rfl ?_
      exact G_ifn c6 hJ
    · refine G_iload h dX6_answer_68 rfl rfl ?_
      refine G_iconst h dX6_answer_70 ki_2 rfl ?_
      refine G_iadd h dX6_answer_71 rfl ?_
      refine G_goto h dX6_answer_72 (tgt := 77) (by decide) ?_
      exact G_ifp c6 hJ
  have hf := it_f c5 hf
  by_cases c7 : v1 = 4
  · have hf := it_t c7 hf
    refine G_tsIn h dX6_answer_18 c7 (v := 4) (j := 4) (by decide) (by decide) rfl (tgt := 78) (by decide) ?_
    refine G_iload_n h dX6_answer_78 (i := 2) rfl rfl rfl ?_
    refine G_iconst h dX6_answer_79 ki_5 rfl ?_
    have hJ : G X E (0, 0) 89 [some (.ref v0), some (.int v1), some (.int v2), some (.int v3), some (.int (1 : Int32)), some (.int ((1 : Int32) + (1 : Int32))), some (.int x1)] [.int (if (5 : Int32) < v2 then (1 : Int32) else (0 : Int32))] M := by
      exact toI hR dX6_answer_89 hf
    refine G_icmp_gt h dX6_answer_80 (tgt := 87) (by decide) rfl (fun c8 => ?_) (fun c8 => ?_)
    · refine G_iload h dX6_answer_87 rfl rfl ?_
      exact G_ifp c8 hJ
    · refine G_iconst h dX6_answer_83 ki_0 rfl ?_
      refine G_goto h dX6_answer_84 (tgt := 89) (by decide) ?_
      exact G_ifn c8 hJ
  have hf := it_f c7 hf
  have nc2 := ne_lit c2 (n := 0) (by decide)
  have nc3 := ne_lit c3 (n := 1) (by decide)
  have nc4 := ne_lit c4 (n := 2) (by decide)
  have nc5 := ne_lit c5 (n := 3) (by decide)
  have nc7 := ne_lit c7 (n := 4) (by decide)
  refine G_tsOut h dX6_answer_18 (by omega) (tgt := 90) (by decide) ?_
  refine G_iconst h dX6_answer_90 ki_2 rfl ?_
  refine G_iload h dX6_answer_91 rfl rfl ?_
  refine G_imul h dX6_answer_93 rfl ?_
  refine G_iconst h dX6_answer_94 ki_5 rfl ?_
  refine cm_X6_9 h dX6_answer_95 (Nat.le_of_ble_eq_true rfl) (Nat.le_of_ble_eq_true rfl) rfl ?_
  exact toI hR dX6_answer_98 hf
def rm_X1_alike_k1 : Room := { frames := 1, cells := 0, slots := 0, locals := 25 }
def b_X1_alike_k1_L6 (E : Env1) (M : Mem) (k6 : Nat → Int32 → Int32 → Int32 → Int32 → Int32 → Int32 → (Option (Int32))) (v0 : Nat) (v1 : Int32) (v2 : Int32) (v3 : Int32) (v4 : Int32) (v5 : Int32) (v6 : Int32) : Option (Int32) :=
  if (6 : Int32) ≤ v6 then (some v5)
  else (
    if ((v1 >>> (v6 &&& 31)) &&& (1 : Int32)) = (1 : Int32) then (
      if (f_X2_answer E M v0 v6 v3 v4) = v2 then (k6 v0 v1 v2 v3 v4 (v5 + 1) (v6 + 1))
      else (k6 v0 v1 v2 v3 v4 v5 (v6 + 1)))
    else (k6 v0 v1 v2 v3 v4 v5 (v6 + 1)))
set_option maxRecDepth 100000 in
set_option maxHeartbeats 4000000 in
theorem ob_X1_alike_k1_L6 {X : Ctx} {l0 : Launch} {E : Env1} (h : Cx X l0 E RX1 cX1_alike (some .int) 7 rm_X1_alike_k1) (hE : WF E) {M : Mem} {r : Int32} (hR : RetI X E cX1_alike r M) {k6 : Nat → Int32 → Int32 → Int32 → Int32 → Int32 → Int32 → (Option (Int32))} (hk6 : ∀ (v0 : Nat) (v1 : Int32) (v2 : Int32) (v3 : Int32) (v4 : Int32) (v5 : Int32) (v6 : Int32), isK E v0 1 → k6 v0 v1 v2 v3 v4 v5 v6 = some r → G X E (0, 0) 6 [some (.ref v0), some (.int v1), some (.int v2), some (.int v3), some (.int v4), some (.int v5), some (.int v6)] [] M) {v0 : Nat} {v1 : Int32} {v2 : Int32} {v3 : Int32} {v4 : Int32} {v5 : Int32} {v6 : Int32} (h_v0 : isK E v0 1) (hf : b_X1_alike_k1_L6 E M k6 v0 v1 v2 v3 v4 v5 v6 = some r) : G X E (0, 0) 6 [some (.ref v0), some (.int v1), some (.int v2), some (.int v3), some (.int v4), some (.int v5), some (.int v6)] [] M := by
  unfold b_X1_alike_k1_L6 at hf
  refine G_iload h dX1_alike_6 rfl rfl ?_
  refine G_bipush h dX1_alike_8 kb_6 rfl ?_
  refine G_icmp_ge h dX1_alike_10 (tgt := 45) (by decide) rfl (fun c1 => ?_) (fun c1 => ?_)
  · have hf := it_t c1 hf
    refine G_iload h dX1_alike_45 rfl rfl ?_
    exact roI hR dX1_alike_47 hf
  · have hf := it_f c1 hf
    refine G_iload_n h dX1_alike_13 (i := 1) rfl rfl rfl ?_
    refine G_iload h dX1_alike_14 rfl rfl ?_
    refine G_ishr h dX1_alike_16 rfl ?_
    refine G_iconst h dX1_alike_17 ki_1 rfl ?_
    refine G_iand h dX1_alike_18 rfl ?_
    refine G_iconst h dX1_alike_19 ki_1 rfl ?_
    refine G_icmp_ne h dX1_alike_20 (tgt := 39) (by decide) rfl (fun c2 => ?_) (fun c2 => ?_)
    · have hf := it_f c2 hf
      refine G_iinc2 h dX1_alike_39 rfl ki_1 (by decide) (L' := [some (.ref v0), some (.int v1), some (.int v2), some (.int v3), some (.int v4), some (.int v5), some (.int (v6 + 1))]) rfl rfl ?_
      refine G_goto h dX1_alike_42 (tgt := 6) (by decide) ?_
      exact hk6 _ _ _ _ _ _ _ h_v0 hf
    · have hf := it_t c2 hf
      refine G_aload_n h dX1_alike_23 (i := 0) rfl rfl rfl ?_
      refine G_iload h dX1_alike_24 rfl rfl ?_
      refine G_iload_n h dX1_alike_26 (i := 3) rfl rfl rfl ?_
      refine G_iload h dX1_alike_27 rfl rfl ?_
      refine cl_X1_33_k1 h (ok_X2_answer hE _ h_v0 (r := f_X2_answer E M v0 v6 v3 v4) rfl) dX1_alike_29 h_v0 (as := [.int v6, .int v3, .int v4]) rfl rfl ⟨rfl, rfl, Nat.le_of_ble_eq_true rfl, Nat.le_of_ble_eq_true rfl⟩ rfl (Nat.le_of_ble_eq_true rfl) ?_
      refine G_iload_n h dX1_alike_32 (i := 2) rfl rfl rfl ?_
      refine G_icmp_ne h dX1_alike_33 (tgt := 39) (by decide) rfl (fun c3 => ?_) (fun c3 => ?_)
      · have hf := it_f c3 hf
        refine G_iinc2 h dX1_alike_39 rfl ki_1 (by decide) (L' := [some (.ref v0), some (.int v1), some (.int v2), some (.int v3), some (.int v4), some (.int v5), some (.int (v6 + 1))]) rfl rfl ?_
        refine G_goto h dX1_alike_42 (tgt := 6) (by decide) ?_
        exact hk6 _ _ _ _ _ _ _ h_v0 hf
      · have hf := it_t c3 hf
        refine G_iinc2 h dX1_alike_36 rfl ki_1 (by decide) (L' := [some (.ref v0), some (.int v1), some (.int v2), some (.int v3), some (.int v4), some (.int (v5 + 1)), some (.int v6)]) rfl rfl ?_
        refine G_iinc2 h dX1_alike_39 rfl ki_1 (by decide) (L' := [some (.ref v0), some (.int v1), some (.int v2), some (.int v3), some (.int v4), some (.int (v5 + 1)), some (.int (v6 + 1))]) rfl rfl ?_
        refine G_goto h dX1_alike_42 (tgt := 6) (by decide) ?_
        exact hk6 _ _ _ _ _ _ _ h_v0 hf
def f_X1_alike_k1_L6 (E : Env1) (M : Mem) : Nat → Nat → Int32 → Int32 → Int32 → Int32 → Int32 → Int32 → (Option (Int32))
  | 0 => fun _ _ _ _ _ _ _ => none
  | n + 1 => b_X1_alike_k1_L6 E M (f_X1_alike_k1_L6 E M n)
theorem o_X1_alike_k1_L6 {X : Ctx} {l0 : Launch} {E : Env1} (h : Cx X l0 E RX1 cX1_alike (some .int) 7 rm_X1_alike_k1) (hE : WF E) {M : Mem} {r : Int32} (hR : RetI X E cX1_alike r M) : ∀ (n : Nat) (v0 : Nat) (v1 : Int32) (v2 : Int32) (v3 : Int32) (v4 : Int32) (v5 : Int32) (v6 : Int32), isK E v0 1 → f_X1_alike_k1_L6 E M n v0 v1 v2 v3 v4 v5 v6 = some r → G X E (0, 0) 6 [some (.ref v0), some (.int v1), some (.int v2), some (.int v3), some (.int v4), some (.int v5), some (.int v6)] [] M := by
  intro n
  induction n with
  | zero =>
    intro _ _ _ _ _ _ _ a0 hf
    have h0 : (none : Option (Int32)) = some r := hf
    cases h0
  | succ n ih =>
    intro _ _ _ _ _ _ _ a0 hf
    exact ob_X1_alike_k1_L6 h hE hR  ih a0 hf
def f_X1_alike_k1 (E : Env1) (M : Mem) (v0 : Nat) (v1 : Int32) (v2 : Int32) (v3 : Int32) (v4 : Int32) : Option (Int32) :=
  f_X1_alike_k1_L6 E M FU v0 v1 v2 v3 v4 (0 : Int32) (0 : Int32)
set_option maxRecDepth 100000 in
set_option maxHeartbeats 4000000 in
theorem ok_X1_alike_k1 {E : Env1} (hE : WF E) (l0 : Launch) {M : Mem} {v0 : Nat} {v1 : Int32} {v2 : Int32} {v3 : Int32} {v4 : Int32} {r : Int32} (h0 : isK E v0 1) (hf : f_X1_alike_k1 E M v0 v1 v2 v3 v4 = some r) : Met l0 yX1_alike (wsA yX1_alike cX1_alike 7 (some .int)) rm_X1_alike_k1 (CP E M [.ref v0, .int v1, .int v2, .int v3, .int v4]) (CQi E r M) 0 0 (eA E) := by
  unfold f_X1_alike_k1 at hf
  refine mtI l0 (by decide +kernel) (Nat.le_of_ble_eq_true rfl) (L0 := [some (.ref v0), some (.int v1), some (.int v2), some (.int v3), some (.int v4), none, none]) rfl (fun X h hR => ?_)
  refine G_iconst h dX1_alike_0 ki_0 rfl ?_
  refine G_istore h dX1_alike_1  (by decide) (L' := [some (.ref v0), some (.int v1), some (.int v2), some (.int v3), some (.int v4), some (.int (0 : Int32)), none]) rfl rfl ?_
  refine G_iconst h dX1_alike_3 ki_0 rfl ?_
  refine G_istore h dX1_alike_4  (by decide) (L' := [some (.ref v0), some (.int v1), some (.int v2), some (.int v3), some (.int v4), some (.int (0 : Int32)), some (.int (0 : Int32))]) rfl rfl ?_
  exact o_X1_alike_k1_L6 h hE hR  FU _ _ _ _ _ _ _ h0 hf
def rm_X1_mostAlike_k1 : Room := { frames := 2, cells := 0, slots := 0, locals := 51 }
def b_X1_mostAlike_k1_L6 (E : Env1) (M : Mem) (k6 : Nat → Int32 → Int32 → Int32 → Int32 → Int32 → (Option (Int32))) (v0 : Nat) (v1 : Int32) (v2 : Int32) (v3 : Int32) (v4 : Int32) (v5 : Int32) : Option (Int32) :=
  if (6 : Int32) ≤ v5 then (some v4)
  else (
    if ((v1 >>> (v5 &&& 31)) &&& (1 : Int32)) = (1 : Int32) then (
      (f_X1_alike_k1 E M v0 v1 (f_X2_answer E M v0 v5 v2 v3) v2 v3).bind fun x3 =>
      k6 v0 v1 v2 v3 (jmax v4 x3) (v5 + 1))
    else (k6 v0 v1 v2 v3 v4 (v5 + 1)))
set_option maxRecDepth 100000 in
set_option maxHeartbeats 4000000 in
theorem ob_X1_mostAlike_k1_L6 {X : Ctx} {l0 : Launch} {E : Env1} (h : Cx X l0 E RX1 cX1_mostAlike (some .int) 6 rm_X1_mostAlike_k1) (hE : WF E) {M : Mem} {r : Int32} (hR : RetI X E cX1_mostAlike r M) {k6 : Nat → Int32 → Int32 → Int32 → Int32 → Int32 → (Option (Int32))} (hk6 : ∀ (v0 : Nat) (v1 : Int32) (v2 : Int32) (v3 : Int32) (v4 : Int32) (v5 : Int32), isK E v0 1 → k6 v0 v1 v2 v3 v4 v5 = some r → G X E (0, 0) 6 [some (.ref v0), some (.int v1), some (.int v2), some (.int v3), some (.int v4), some (.int v5)] [] M) {v0 : Nat} {v1 : Int32} {v2 : Int32} {v3 : Int32} {v4 : Int32} {v5 : Int32} (h_v0 : isK E v0 1) (hf : b_X1_mostAlike_k1_L6 E M k6 v0 v1 v2 v3 v4 v5 = some r) : G X E (0, 0) 6 [some (.ref v0), some (.int v1), some (.int v2), some (.int v3), some (.int v4), some (.int v5)] [] M := by
  unfold b_X1_mostAlike_k1_L6 at hf
  refine G_iload h dX1_mostAlike_6 rfl rfl ?_
  refine G_bipush h dX1_mostAlike_8 kb_6 rfl ?_
  refine G_icmp_ge h dX1_mostAlike_10 (tgt := 51) (by decide) rfl (fun c1 => ?_) (fun c1 => ?_)
  · have hf := it_t c1 hf
    refine G_iload h dX1_mostAlike_51 rfl rfl ?_
    exact roI hR dX1_mostAlike_53 hf
  · have hf := it_f c1 hf
    refine G_iload_n h dX1_mostAlike_13 (i := 1) rfl rfl rfl ?_
    refine G_iload h dX1_mostAlike_14 rfl rfl ?_
    refine G_ishr h dX1_mostAlike_16 rfl ?_
    refine G_iconst h dX1_mostAlike_17 ki_1 rfl ?_
    refine G_iand h dX1_mostAlike_18 rfl ?_
    refine G_iconst h dX1_mostAlike_19 ki_1 rfl ?_
    refine G_icmp_ne h dX1_mostAlike_20 (tgt := 45) (by decide) rfl (fun c2 => ?_) (fun c2 => ?_)
    · have hf := it_f c2 hf
      refine G_iinc2 h dX1_mostAlike_45 rfl ki_1 (by decide) (L' := [some (.ref v0), some (.int v1), some (.int v2), some (.int v3), some (.int v4), some (.int (v5 + 1))]) rfl rfl ?_
      refine G_goto h dX1_mostAlike_48 (tgt := 6) (by decide) ?_
      exact hk6 _ _ _ _ _ _ h_v0 hf
    · have hf := it_t c2 hf
      refine G_iload h dX1_mostAlike_23 rfl rfl ?_
      refine G_aload_n h dX1_mostAlike_25 (i := 0) rfl rfl rfl ?_
      refine G_iload_n h dX1_mostAlike_26 (i := 1) rfl rfl rfl ?_
      refine G_aload_n h dX1_mostAlike_27 (i := 0) rfl rfl rfl ?_
      refine G_iload h dX1_mostAlike_28 rfl rfl ?_
      refine G_iload_n h dX1_mostAlike_30 (i := 2) rfl rfl rfl ?_
      refine G_iload_n h dX1_mostAlike_31 (i := 3) rfl rfl rfl ?_
      refine cl_X1_33_k1 h (ok_X2_answer hE _ h_v0 (r := f_X2_answer E M v0 v5 v2 v3) rfl) dX1_mostAlike_32 h_v0 (as := [.int v5, .int v2, .int v3]) rfl rfl ⟨rfl, rfl, Nat.le_of_ble_eq_true rfl, Nat.le_of_ble_eq_true rfl⟩ rfl (Nat.le_of_ble_eq_true rfl) ?_
      refine G_iload_n h dX1_mostAlike_35 (i := 2) rfl rfl rfl ?_
      refine G_iload_n h dX1_mostAlike_36 (i := 3) rfl rfl rfl ?_
      obtain ⟨x3, hx3, hf⟩ := bd hf
      refine cl_X1_37_k1 h (ok_X1_alike_k1 hE _ h_v0 hx3) dX1_mostAlike_37 h_v0 (as := [.int v1, .int (f_X2_answer E M v0 v5 v2 v3), .int v2, .int v3]) rfl rfl ⟨rfl, rfl, Nat.le_of_ble_eq_true rfl, Nat.le_of_ble_eq_true rfl⟩ rfl (Nat.le_of_ble_eq_true rfl) ?_
      refine cm_X1_41 h dX1_mostAlike_40 (Nat.le_of_ble_eq_true rfl) (Nat.le_of_ble_eq_true rfl) rfl ?_
      refine G_istore h dX1_mostAlike_43  (by decide) (L' := [some (.ref v0), some (.int v1), some (.int v2), some (.int v3), some (.int (jmax v4 x3)), some (.int v5)]) rfl rfl ?_
      refine G_iinc2 h dX1_mostAlike_45 rfl ki_1 (by decide) (L' := [some (.ref v0), some (.int v1), some (.int v2), some (.int v3), some (.int (jmax v4 x3)), some (.int (v5 + 1))]) rfl rfl ?_
      refine G_goto h dX1_mostAlike_48 (tgt := 6) (by decide) ?_
      exact hk6 _ _ _ _ _ _ h_v0 hf
def f_X1_mostAlike_k1_L6 (E : Env1) (M : Mem) : Nat → Nat → Int32 → Int32 → Int32 → Int32 → Int32 → (Option (Int32))
  | 0 => fun _ _ _ _ _ _ => none
  | n + 1 => b_X1_mostAlike_k1_L6 E M (f_X1_mostAlike_k1_L6 E M n)
theorem o_X1_mostAlike_k1_L6 {X : Ctx} {l0 : Launch} {E : Env1} (h : Cx X l0 E RX1 cX1_mostAlike (some .int) 6 rm_X1_mostAlike_k1) (hE : WF E) {M : Mem} {r : Int32} (hR : RetI X E cX1_mostAlike r M) : ∀ (n : Nat) (v0 : Nat) (v1 : Int32) (v2 : Int32) (v3 : Int32) (v4 : Int32) (v5 : Int32), isK E v0 1 → f_X1_mostAlike_k1_L6 E M n v0 v1 v2 v3 v4 v5 = some r → G X E (0, 0) 6 [some (.ref v0), some (.int v1), some (.int v2), some (.int v3), some (.int v4), some (.int v5)] [] M := by
  intro n
  induction n with
  | zero =>
    intro _ _ _ _ _ _ a0 hf
    have h0 : (none : Option (Int32)) = some r := hf
    cases h0
  | succ n ih =>
    intro _ _ _ _ _ _ a0 hf
    exact ob_X1_mostAlike_k1_L6 h hE hR  ih a0 hf
def f_X1_mostAlike_k1 (E : Env1) (M : Mem) (v0 : Nat) (v1 : Int32) (v2 : Int32) (v3 : Int32) : Option (Int32) :=
  f_X1_mostAlike_k1_L6 E M FU v0 v1 v2 v3 (0 : Int32) (0 : Int32)
set_option maxRecDepth 100000 in
set_option maxHeartbeats 4000000 in
theorem ok_X1_mostAlike_k1 {E : Env1} (hE : WF E) (l0 : Launch) {M : Mem} {v0 : Nat} {v1 : Int32} {v2 : Int32} {v3 : Int32} {r : Int32} (h0 : isK E v0 1) (hf : f_X1_mostAlike_k1 E M v0 v1 v2 v3 = some r) : Met l0 yX1_mostAlike (wsA yX1_mostAlike cX1_mostAlike 6 (some .int)) rm_X1_mostAlike_k1 (CP E M [.ref v0, .int v1, .int v2, .int v3]) (CQi E r M) 0 0 (eA E) := by
  unfold f_X1_mostAlike_k1 at hf
  refine mtI l0 (by decide +kernel) (Nat.le_of_ble_eq_true rfl) (L0 := [some (.ref v0), some (.int v1), some (.int v2), some (.int v3), none, none]) rfl (fun X h hR => ?_)
  refine G_iconst h dX1_mostAlike_0 ki_0 rfl ?_
  refine G_istore h dX1_mostAlike_1  (by decide) (L' := [some (.ref v0), some (.int v1), some (.int v2), some (.int v3), some (.int (0 : Int32)), none]) rfl rfl ?_
  refine G_iconst h dX1_mostAlike_3 ki_0 rfl ?_
  refine G_istore h dX1_mostAlike_4  (by decide) (L' := [some (.ref v0), some (.int v1), some (.int v2), some (.int v3), some (.int (0 : Int32)), some (.int (0 : Int32))]) rfl rfl ?_
  exact o_X1_mostAlike_k1_L6 h hE hR  FU _ _ _ _ _ _ h0 hf
def rm_X2_bestQuestion : Room := { frames := 3, cells := 0, slots := 0, locals := 76 }
def b_X2_bestQuestion_L18 (E : Env1) (M : Mem) (k8 : Nat → Int32 → Int32 → Int32 → Int32 → (Option (Int32))) (k18 : Nat → Int32 → Int32 → Int32 → Int32 → Int32 → (Option (Int32))) (v0 : Nat) (v1 : Int32) (v2 : Int32) (v3 : Int32) (v4 : Int32) (v5 : Int32) : Option (Int32) :=
  if (8 : Int32) < v5 then (k8 v0 v1 v2 v3 (v4 + 1))
  else (
    (f_X1_mostAlike_k1 E M v0 v1 v5 v4).bind fun x2 =>
    if v3 ≤ x2 then (k18 v0 v1 v2 v3 v4 (v5 + 1))
    else (
      nm ((((10 : Int32) * v4) + v5) + (1 : Int32)) fun x4 =>
      k18 v0 v1 x4 x2 v4 (v5 + 1)))
set_option maxRecDepth 100000 in
set_option maxHeartbeats 4000000 in
theorem ob_X2_bestQuestion_L18 {X : Ctx} {l0 : Launch} {E : Env1} (h : Cx X l0 E RX2 cX2_bestQuestion (some .int) 7 rm_X2_bestQuestion) (hE : WF E) {M : Mem} {r : Int32} (hR : RetI X E cX2_bestQuestion r M) {k8 : Nat → Int32 → Int32 → Int32 → Int32 → (Option (Int32))} (hk8 : ∀ (v0 : Nat) (v1 : Int32) (v2 : Int32) (v3 : Int32) (v4 : Int32), isK E v0 1 → k8 v0 v1 v2 v3 v4 = some r → G X E (0, 0) 8 [some (.ref v0), some (.int v1), some (.int v2), some (.int v3), some (.int v4), none, none] [] M) {k18 : Nat → Int32 → Int32 → Int32 → Int32 → Int32 → (Option (Int32))} (hk18 : ∀ (v0 : Nat) (v1 : Int32) (v2 : Int32) (v3 : Int32) (v4 : Int32) (v5 : Int32), isK E v0 1 → k18 v0 v1 v2 v3 v4 v5 = some r → G X E (0, 0) 18 [some (.ref v0), some (.int v1), some (.int v2), some (.int v3), some (.int v4), some (.int v5), none] [] M) {v0 : Nat} {v1 : Int32} {v2 : Int32} {v3 : Int32} {v4 : Int32} {v5 : Int32} (h_v0 : isK E v0 1) (hf : b_X2_bestQuestion_L18 E M k8 k18 v0 v1 v2 v3 v4 v5 = some r) : G X E (0, 0) 18 [some (.ref v0), some (.int v1), some (.int v2), some (.int v3), some (.int v4), some (.int v5), none] [] M := by
  unfold b_X2_bestQuestion_L18 at hf
  refine G_iload h dX2_bestQuestion_18 rfl rfl ?_
  refine G_bipush h dX2_bestQuestion_20 kb_8 rfl ?_
  refine G_icmp_gt h dX2_bestQuestion_22 (tgt := 62) (by decide) rfl (fun c1 => ?_) (fun c1 => ?_)
  · have hf := it_t c1 hf
    refine G_iinc2 h dX2_bestQuestion_62 rfl ki_1 (by decide) (L' := [some (.ref v0), some (.int v1), some (.int v2), some (.int v3), some (.int (v4 + 1)), some (.int v5), none]) rfl rfl ?_
    refine G_goto h dX2_bestQuestion_65 (tgt := 8) (by decide) ?_
    refine G_mskL [true, true, true, true, true, false, false] (L' := [some (.ref v0), some (.int v1), some (.int v2), some (.int v3), some (.int (v4 + 1)), none, none]) rfl ?_
    exact hk8 _ _ _ _ _ h_v0 hf
  · have hf := it_f c1 hf
    refine G_aload_n h dX2_bestQuestion_25 (i := 0) rfl rfl rfl ?_
    refine G_iload_n h dX2_bestQuestion_26 (i := 1) rfl rfl rfl ?_
    refine G_iload h dX2_bestQuestion_27 rfl rfl ?_
    refine G_iload h dX2_bestQuestion_29 rfl rfl ?_
    obtain ⟨x2, hx2, hf⟩ := bd hf
    refine cl_X2_11_k1 h (ok_X1_mostAlike_k1 hE _ h_v0 hx2) dX2_bestQuestion_31 h_v0 (as := [.int v1, .int v5, .int v4]) rfl rfl ⟨rfl, rfl, Nat.le_of_ble_eq_true rfl, Nat.le_of_ble_eq_true rfl⟩ rfl (Nat.le_of_ble_eq_true rfl) ?_
    refine G_istore h dX2_bestQuestion_34  (by decide) (L' := [some (.ref v0), some (.int v1), some (.int v2), some (.int v3), some (.int v4), some (.int v5), some (.int x2)]) rfl rfl ?_
    refine G_iload h dX2_bestQuestion_36 rfl rfl ?_
    refine G_iload_n h dX2_bestQuestion_38 (i := 3) rfl rfl rfl ?_
    refine G_icmp_ge h dX2_bestQuestion_39 (tgt := 56) (by decide) rfl (fun c3 => ?_) (fun c3 => ?_)
    · have hf := it_t c3 hf
      refine G_iinc2 h dX2_bestQuestion_56 rfl ki_1 (by decide) (L' := [some (.ref v0), some (.int v1), some (.int v2), some (.int v3), some (.int v4), some (.int (v5 + 1)), some (.int x2)]) rfl rfl ?_
      refine G_goto h dX2_bestQuestion_59 (tgt := 18) (by decide) ?_
      refine G_mskL [true, true, true, true, true, true, false] (L' := [some (.ref v0), some (.int v1), some (.int v2), some (.int v3), some (.int v4), some (.int (v5 + 1)), none]) rfl ?_
      exact hk18 _ _ _ _ _ _ h_v0 hf
    · have hf := it_f c3 hf
      refine G_iload h dX2_bestQuestion_42 rfl rfl ?_
      refine G_istore_n h dX2_bestQuestion_44 (i := 3) rfl (by decide) (L' := [some (.ref v0), some (.int v1), some (.int v2), some (.int x2), some (.int v4), some (.int v5), some (.int x2)]) rfl rfl ?_
      refine G_bipush h dX2_bestQuestion_45 kb_10 rfl ?_
      refine G_iload h dX2_bestQuestion_47 rfl rfl ?_
      refine G_imul h dX2_bestQuestion_49 rfl ?_
      refine G_iload h dX2_bestQuestion_50 rfl rfl ?_
      refine G_iadd h dX2_bestQuestion_52 rfl ?_
      refine G_iconst h dX2_bestQuestion_53 ki_1 rfl ?_
      refine G_iadd h dX2_bestQuestion_54 rfl ?_
      refine G_nmi (fun x4 hx4 => ?_)
      have hf := nm_eq hx4 hf
      refine G_istore_n h dX2_bestQuestion_55 (i := 2) rfl (by decide) (L' := [some (.ref v0), some (.int v1), some (.int x4), some (.int x2), some (.int v4), some (.int v5), some (.int x2)]) rfl rfl ?_
      refine G_iinc2 h dX2_bestQuestion_56 rfl ki_1 (by decide) (L' := [some (.ref v0), some (.int v1), some (.int x4), some (.int x2), some (.int v4), some (.int (v5 + 1)), some (.int x2)]) rfl rfl ?_
      refine G_goto h dX2_bestQuestion_59 (tgt := 18) (by decide) ?_
      refine G_mskL [true, true, true, true, true, true, false] (L' := [some (.ref v0), some (.int v1), some (.int x4), some (.int x2), some (.int v4), some (.int (v5 + 1)), none]) rfl ?_
      exact hk18 _ _ _ _ _ _ h_v0 hf
def f_X2_bestQuestion_L18 (E : Env1) (M : Mem) (k8 : Nat → Int32 → Int32 → Int32 → Int32 → (Option (Int32))) : Nat → Nat → Int32 → Int32 → Int32 → Int32 → Int32 → (Option (Int32))
  | 0 => fun _ _ _ _ _ _ => none
  | n + 1 => b_X2_bestQuestion_L18 E M k8 (f_X2_bestQuestion_L18 E M k8 n)
theorem o_X2_bestQuestion_L18 {X : Ctx} {l0 : Launch} {E : Env1} (h : Cx X l0 E RX2 cX2_bestQuestion (some .int) 7 rm_X2_bestQuestion) (hE : WF E) {M : Mem} {r : Int32} (hR : RetI X E cX2_bestQuestion r M) {k8 : Nat → Int32 → Int32 → Int32 → Int32 → (Option (Int32))} (hk8 : ∀ (v0 : Nat) (v1 : Int32) (v2 : Int32) (v3 : Int32) (v4 : Int32), isK E v0 1 → k8 v0 v1 v2 v3 v4 = some r → G X E (0, 0) 8 [some (.ref v0), some (.int v1), some (.int v2), some (.int v3), some (.int v4), none, none] [] M) : ∀ (n : Nat) (v0 : Nat) (v1 : Int32) (v2 : Int32) (v3 : Int32) (v4 : Int32) (v5 : Int32), isK E v0 1 → f_X2_bestQuestion_L18 E M k8 n v0 v1 v2 v3 v4 v5 = some r → G X E (0, 0) 18 [some (.ref v0), some (.int v1), some (.int v2), some (.int v3), some (.int v4), some (.int v5), none] [] M := by
  intro n
  induction n with
  | zero =>
    intro _ _ _ _ _ _ a0 hf
    have h0 : (none : Option (Int32)) = some r := hf
    cases h0
  | succ n ih =>
    intro _ _ _ _ _ _ a0 hf
    exact ob_X2_bestQuestion_L18 h hE hR hk8 ih a0 hf
def b_X2_bestQuestion_L8 (E : Env1) (M : Mem) (k8 : Nat → Int32 → Int32 → Int32 → Int32 → (Option (Int32))) (v0 : Nat) (v1 : Int32) (v2 : Int32) (v3 : Int32) (v4 : Int32) : Option (Int32) :=
  if (24 : Int32) ≤ v4 then (some v2)
  else (f_X2_bestQuestion_L18 E M k8 FU v0 v1 v2 v3 v4 (-1 : Int32))
set_option maxRecDepth 100000 in
set_option maxHeartbeats 4000000 in
theorem ob_X2_bestQuestion_L8 {X : Ctx} {l0 : Launch} {E : Env1} (h : Cx X l0 E RX2 cX2_bestQuestion (some .int) 7 rm_X2_bestQuestion) (hE : WF E) {M : Mem} {r : Int32} (hR : RetI X E cX2_bestQuestion r M) {k8 : Nat → Int32 → Int32 → Int32 → Int32 → (Option (Int32))} (hk8 : ∀ (v0 : Nat) (v1 : Int32) (v2 : Int32) (v3 : Int32) (v4 : Int32), isK E v0 1 → k8 v0 v1 v2 v3 v4 = some r → G X E (0, 0) 8 [some (.ref v0), some (.int v1), some (.int v2), some (.int v3), some (.int v4), none, none] [] M) {v0 : Nat} {v1 : Int32} {v2 : Int32} {v3 : Int32} {v4 : Int32} (h_v0 : isK E v0 1) (hf : b_X2_bestQuestion_L8 E M k8 v0 v1 v2 v3 v4 = some r) : G X E (0, 0) 8 [some (.ref v0), some (.int v1), some (.int v2), some (.int v3), some (.int v4), none, none] [] M := by
  unfold b_X2_bestQuestion_L8 at hf
  refine G_iload h dX2_bestQuestion_8 rfl rfl ?_
  refine G_bipush h dX2_bestQuestion_10 kb_24 rfl ?_
  refine G_icmp_ge h dX2_bestQuestion_12 (tgt := 68) (by decide) rfl (fun c1 => ?_) (fun c1 => ?_)
  · have hf := it_t c1 hf
    refine G_iload_n h dX2_bestQuestion_68 (i := 2) rfl rfl rfl ?_
    exact roI hR dX2_bestQuestion_69 hf
  · have hf := it_f c1 hf
    refine G_iconst h dX2_bestQuestion_15 ki_m1 rfl ?_
    refine G_istore h dX2_bestQuestion_16  (by decide) (L' := [some (.ref v0), some (.int v1), some (.int v2), some (.int v3), some (.int v4), some (.int (-1 : Int32)), none]) rfl rfl ?_
    exact o_X2_bestQuestion_L18 h hE hR hk8 FU _ _ _ _ _ _ h_v0 hf
def f_X2_bestQuestion_L8 (E : Env1) (M : Mem) : Nat → Nat → Int32 → Int32 → Int32 → Int32 → (Option (Int32))
  | 0 => fun _ _ _ _ _ => none
  | n + 1 => b_X2_bestQuestion_L8 E M (f_X2_bestQuestion_L8 E M n)
theorem o_X2_bestQuestion_L8 {X : Ctx} {l0 : Launch} {E : Env1} (h : Cx X l0 E RX2 cX2_bestQuestion (some .int) 7 rm_X2_bestQuestion) (hE : WF E) {M : Mem} {r : Int32} (hR : RetI X E cX2_bestQuestion r M) : ∀ (n : Nat) (v0 : Nat) (v1 : Int32) (v2 : Int32) (v3 : Int32) (v4 : Int32), isK E v0 1 → f_X2_bestQuestion_L8 E M n v0 v1 v2 v3 v4 = some r → G X E (0, 0) 8 [some (.ref v0), some (.int v1), some (.int v2), some (.int v3), some (.int v4), none, none] [] M := by
  intro n
  induction n with
  | zero =>
    intro _ _ _ _ _ a0 hf
    have h0 : (none : Option (Int32)) = some r := hf
    cases h0
  | succ n ih =>
    intro _ _ _ _ _ a0 hf
    exact ob_X2_bestQuestion_L8 h hE hR  ih a0 hf
def f_X2_bestQuestion (E : Env1) (M : Mem) (v0 : Nat) (v1 : Int32) : Option (Int32) :=
  f_X2_bestQuestion_L8 E M FU v0 v1 (-1 : Int32) (7 : Int32) (0 : Int32)
set_option maxRecDepth 100000 in
set_option maxHeartbeats 4000000 in
theorem ok_X2_bestQuestion {E : Env1} (hE : WF E) (l0 : Launch) {M : Mem} {v0 : Nat} {v1 : Int32} {r : Int32} (h0 : isK E v0 1) (hf : f_X2_bestQuestion E M v0 v1 = some r) : Met l0 yX2_bestQuestion (wsA yX2_bestQuestion cX2_bestQuestion 7 (some .int)) rm_X2_bestQuestion (CP E M [.ref v0, .int v1]) (CQi E r M) 0 0 (eA E) := by
  unfold f_X2_bestQuestion at hf
  refine mtI l0 (by decide +kernel) (Nat.le_of_ble_eq_true rfl) (L0 := [some (.ref v0), some (.int v1), none, none, none, none, none]) rfl (fun X h hR => ?_)
  refine G_iconst h dX2_bestQuestion_0 ki_m1 rfl ?_
  refine G_istore_n h dX2_bestQuestion_1 (i := 2) rfl (by decide) (L' := [some (.ref v0), some (.int v1), some (.int (-1 : Int32)), none, none, none, none]) rfl rfl ?_
  refine G_bipush h dX2_bestQuestion_2 kb_7 rfl ?_
  refine G_istore_n h dX2_bestQuestion_4 (i := 3) rfl (by decide) (L' := [some (.ref v0), some (.int v1), some (.int (-1 : Int32)), some (.int (7 : Int32)), none, none, none]) rfl rfl ?_
  refine G_iconst h dX2_bestQuestion_5 ki_0 rfl ?_
  refine G_istore h dX2_bestQuestion_6  (by decide) (L' := [some (.ref v0), some (.int v1), some (.int (-1 : Int32)), some (.int (7 : Int32)), some (.int (0 : Int32)), none, none]) rfl rfl ?_
  exact o_X2_bestQuestion_L8 h hE hR  FU _ _ _ _ _ h0 hf
def rm_X1_alike_k5 : Room := { frames := 2, cells := 0, slots := 0, locals := 47 }
def b_X1_alike_k5_L6 (E : Env1) (M : Mem) (k6 : Nat → Int32 → Int32 → Int32 → Int32 → Int32 → Int32 → (Option (Int32))) (v0 : Nat) (v1 : Int32) (v2 : Int32) (v3 : Int32) (v4 : Int32) (v5 : Int32) (v6 : Int32) : Option (Int32) :=
  if (6 : Int32) ≤ v6 then (some v5)
  else (
    if ((v1 >>> (v6 &&& 31)) &&& (1 : Int32)) = (1 : Int32) then (
      if (f_X6_answer E M v0 v6 v3 v4) = v2 then (k6 v0 v1 v2 v3 v4 (v5 + 1) (v6 + 1))
      else (k6 v0 v1 v2 v3 v4 v5 (v6 + 1)))
    else (k6 v0 v1 v2 v3 v4 v5 (v6 + 1)))
set_option maxRecDepth 100000 in
set_option maxHeartbeats 4000000 in
theorem ob_X1_alike_k5_L6 {X : Ctx} {l0 : Launch} {E : Env1} (h : Cx X l0 E RX1 cX1_alike (some .int) 7 rm_X1_alike_k5) (hE : WF E) {M : Mem} {r : Int32} (hR : RetI X E cX1_alike r M) {k6 : Nat → Int32 → Int32 → Int32 → Int32 → Int32 → Int32 → (Option (Int32))} (hk6 : ∀ (v0 : Nat) (v1 : Int32) (v2 : Int32) (v3 : Int32) (v4 : Int32) (v5 : Int32) (v6 : Int32), isK E v0 5 → k6 v0 v1 v2 v3 v4 v5 v6 = some r → G X E (0, 0) 6 [some (.ref v0), some (.int v1), some (.int v2), some (.int v3), some (.int v4), some (.int v5), some (.int v6)] [] M) {v0 : Nat} {v1 : Int32} {v2 : Int32} {v3 : Int32} {v4 : Int32} {v5 : Int32} {v6 : Int32} (h_v0 : isK E v0 5) (hf : b_X1_alike_k5_L6 E M k6 v0 v1 v2 v3 v4 v5 v6 = some r) : G X E (0, 0) 6 [some (.ref v0), some (.int v1), some (.int v2), some (.int v3), some (.int v4), some (.int v5), some (.int v6)] [] M := by
  unfold b_X1_alike_k5_L6 at hf
  refine G_iload h dX1_alike_6 rfl rfl ?_
  refine G_bipush h dX1_alike_8 kb_6 rfl ?_
  refine G_icmp_ge h dX1_alike_10 (tgt := 45) (by decide) rfl (fun c1 => ?_) (fun c1 => ?_)
  · have hf := it_t c1 hf
    refine G_iload h dX1_alike_45 rfl rfl ?_
    exact roI hR dX1_alike_47 hf
  · have hf := it_f c1 hf
    refine G_iload_n h dX1_alike_13 (i := 1) rfl rfl rfl ?_
    refine G_iload h dX1_alike_14 rfl rfl ?_
    refine G_ishr h dX1_alike_16 rfl ?_
    refine G_iconst h dX1_alike_17 ki_1 rfl ?_
    refine G_iand h dX1_alike_18 rfl ?_
    refine G_iconst h dX1_alike_19 ki_1 rfl ?_
    refine G_icmp_ne h dX1_alike_20 (tgt := 39) (by decide) rfl (fun c2 => ?_) (fun c2 => ?_)
    · have hf := it_f c2 hf
      refine G_iinc2 h dX1_alike_39 rfl ki_1 (by decide) (L' := [some (.ref v0), some (.int v1), some (.int v2), some (.int v3), some (.int v4), some (.int v5), some (.int (v6 + 1))]) rfl rfl ?_
      refine G_goto h dX1_alike_42 (tgt := 6) (by decide) ?_
      exact hk6 _ _ _ _ _ _ _ h_v0 hf
    · have hf := it_t c2 hf
      refine G_aload_n h dX1_alike_23 (i := 0) rfl rfl rfl ?_
      refine G_iload h dX1_alike_24 rfl rfl ?_
      refine G_iload_n h dX1_alike_26 (i := 3) rfl rfl rfl ?_
      refine G_iload h dX1_alike_27 rfl rfl ?_
      refine cl_X1_33_k5 h (ok_X6_answer hE _ h_v0 (r := f_X6_answer E M v0 v6 v3 v4) rfl) dX1_alike_29 h_v0 (as := [.int v6, .int v3, .int v4]) rfl rfl ⟨rfl, rfl, Nat.le_of_ble_eq_true rfl, Nat.le_of_ble_eq_true rfl⟩ rfl (Nat.le_of_ble_eq_true rfl) ?_
      refine G_iload_n h dX1_alike_32 (i := 2) rfl rfl rfl ?_
      refine G_icmp_ne h dX1_alike_33 (tgt := 39) (by decide) rfl (fun c3 => ?_) (fun c3 => ?_)
      · have hf := it_f c3 hf
        refine G_iinc2 h dX1_alike_39 rfl ki_1 (by decide) (L' := [some (.ref v0), some (.int v1), some (.int v2), some (.int v3), some (.int v4), some (.int v5), some (.int (v6 + 1))]) rfl rfl ?_
        refine G_goto h dX1_alike_42 (tgt := 6) (by decide) ?_
        exact hk6 _ _ _ _ _ _ _ h_v0 hf
      · have hf := it_t c3 hf
        refine G_iinc2 h dX1_alike_36 rfl ki_1 (by decide) (L' := [some (.ref v0), some (.int v1), some (.int v2), some (.int v3), some (.int v4), some (.int (v5 + 1)), some (.int v6)]) rfl rfl ?_
        refine G_iinc2 h dX1_alike_39 rfl ki_1 (by decide) (L' := [some (.ref v0), some (.int v1), some (.int v2), some (.int v3), some (.int v4), some (.int (v5 + 1)), some (.int (v6 + 1))]) rfl rfl ?_
        refine G_goto h dX1_alike_42 (tgt := 6) (by decide) ?_
        exact hk6 _ _ _ _ _ _ _ h_v0 hf
def f_X1_alike_k5_L6 (E : Env1) (M : Mem) : Nat → Nat → Int32 → Int32 → Int32 → Int32 → Int32 → Int32 → (Option (Int32))
  | 0 => fun _ _ _ _ _ _ _ => none
  | n + 1 => b_X1_alike_k5_L6 E M (f_X1_alike_k5_L6 E M n)
theorem o_X1_alike_k5_L6 {X : Ctx} {l0 : Launch} {E : Env1} (h : Cx X l0 E RX1 cX1_alike (some .int) 7 rm_X1_alike_k5) (hE : WF E) {M : Mem} {r : Int32} (hR : RetI X E cX1_alike r M) : ∀ (n : Nat) (v0 : Nat) (v1 : Int32) (v2 : Int32) (v3 : Int32) (v4 : Int32) (v5 : Int32) (v6 : Int32), isK E v0 5 → f_X1_alike_k5_L6 E M n v0 v1 v2 v3 v4 v5 v6 = some r → G X E (0, 0) 6 [some (.ref v0), some (.int v1), some (.int v2), some (.int v3), some (.int v4), some (.int v5), some (.int v6)] [] M := by
  intro n
  induction n with
  | zero =>
    intro _ _ _ _ _ _ _ a0 hf
    have h0 : (none : Option (Int32)) = some r := hf
    cases h0
  | succ n ih =>
    intro _ _ _ _ _ _ _ a0 hf
    exact ob_X1_alike_k5_L6 h hE hR  ih a0 hf
def f_X1_alike_k5 (E : Env1) (M : Mem) (v0 : Nat) (v1 : Int32) (v2 : Int32) (v3 : Int32) (v4 : Int32) : Option (Int32) :=
  f_X1_alike_k5_L6 E M FU v0 v1 v2 v3 v4 (0 : Int32) (0 : Int32)
set_option maxRecDepth 100000 in
set_option maxHeartbeats 4000000 in
theorem ok_X1_alike_k5 {E : Env1} (hE : WF E) (l0 : Launch) {M : Mem} {v0 : Nat} {v1 : Int32} {v2 : Int32} {v3 : Int32} {v4 : Int32} {r : Int32} (h0 : isK E v0 5) (hf : f_X1_alike_k5 E M v0 v1 v2 v3 v4 = some r) : Met l0 yX1_alike (wsA yX1_alike cX1_alike 7 (some .int)) rm_X1_alike_k5 (CP E M [.ref v0, .int v1, .int v2, .int v3, .int v4]) (CQi E r M) 0 0 (eA E) := by
  unfold f_X1_alike_k5 at hf
  refine mtI l0 (by decide +kernel) (Nat.le_of_ble_eq_true rfl) (L0 := [some (.ref v0), some (.int v1), some (.int v2), some (.int v3), some (.int v4), none, none]) rfl (fun X h hR => ?_)
  refine G_iconst h dX1_alike_0 ki_0 rfl ?_
  refine G_istore h dX1_alike_1  (by decide) (L' := [some (.ref v0), some (.int v1), some (.int v2), some (.int v3), some (.int v4), some (.int (0 : Int32)), none]) rfl rfl ?_
  refine G_iconst h dX1_alike_3 ki_0 rfl ?_
  refine G_istore h dX1_alike_4  (by decide) (L' := [some (.ref v0), some (.int v1), some (.int v2), some (.int v3), some (.int v4), some (.int (0 : Int32)), some (.int (0 : Int32))]) rfl rfl ?_
  exact o_X1_alike_k5_L6 h hE hR  FU _ _ _ _ _ _ _ h0 hf
def rm_X1_mostAlike_k5 : Room := { frames := 3, cells := 0, slots := 0, locals := 73 }
def b_X1_mostAlike_k5_L6 (E : Env1) (M : Mem) (k6 : Nat → Int32 → Int32 → Int32 → Int32 → Int32 → (Option (Int32))) (v0 : Nat) (v1 : Int32) (v2 : Int32) (v3 : Int32) (v4 : Int32) (v5 : Int32) : Option (Int32) :=
  if (6 : Int32) ≤ v5 then (some v4)
  else (
    if ((v1 >>> (v5 &&& 31)) &&& (1 : Int32)) = (1 : Int32) then (
      (f_X1_alike_k5 E M v0 v1 (f_X6_answer E M v0 v5 v2 v3) v2 v3).bind fun x3 =>
      k6 v0 v1 v2 v3 (jmax v4 x3) (v5 + 1))
    else (k6 v0 v1 v2 v3 v4 (v5 + 1)))
set_option maxRecDepth 100000 in
set_option maxHeartbeats 4000000 in
theorem ob_X1_mostAlike_k5_L6 {X : Ctx} {l0 : Launch} {E : Env1} (h : Cx X l0 E RX1 cX1_mostAlike (some .int) 6 rm_X1_mostAlike_k5) (hE : WF E) {M : Mem} {r : Int32} (hR : RetI X E cX1_mostAlike r M) {k6 : Nat → Int32 → Int32 → Int32 → Int32 → Int32 → (Option (Int32))} (hk6 : ∀ (v0 : Nat) (v1 : Int32) (v2 : Int32) (v3 : Int32) (v4 : Int32) (v5 : Int32), isK E v0 5 → k6 v0 v1 v2 v3 v4 v5 = some r → G X E (0, 0) 6 [some (.ref v0), some (.int v1), some (.int v2), some (.int v3), some (.int v4), some (.int v5)] [] M) {v0 : Nat} {v1 : Int32} {v2 : Int32} {v3 : Int32} {v4 : Int32} {v5 : Int32} (h_v0 : isK E v0 5) (hf : b_X1_mostAlike_k5_L6 E M k6 v0 v1 v2 v3 v4 v5 = some r) : G X E (0, 0) 6 [some (.ref v0), some (.int v1), some (.int v2), some (.int v3), some (.int v4), some (.int v5)] [] M := by
  unfold b_X1_mostAlike_k5_L6 at hf
  refine G_iload h dX1_mostAlike_6 rfl rfl ?_
  refine G_bipush h dX1_mostAlike_8 kb_6 rfl ?_
  refine G_icmp_ge h dX1_mostAlike_10 (tgt := 51) (by decide) rfl (fun c1 => ?_) (fun c1 => ?_)
  · have hf := it_t c1 hf
    refine G_iload h dX1_mostAlike_51 rfl rfl ?_
    exact roI hR dX1_mostAlike_53 hf
  · have hf := it_f c1 hf
    refine G_iload_n h dX1_mostAlike_13 (i := 1) rfl rfl rfl ?_
    refine G_iload h dX1_mostAlike_14 rfl rfl ?_
    refine G_ishr h dX1_mostAlike_16 rfl ?_
    refine G_iconst h dX1_mostAlike_17 ki_1 rfl ?_
    refine G_iand h dX1_mostAlike_18 rfl ?_
    refine G_iconst h dX1_mostAlike_19 ki_1 rfl ?_
    refine G_icmp_ne h dX1_mostAlike_20 (tgt := 45) (by decide) rfl (fun c2 => ?_) (fun c2 => ?_)
    · have hf := it_f c2 hf
      refine G_iinc2 h dX1_mostAlike_45 rfl ki_1 (by decide) (L' := [some (.ref v0), some (.int v1), some (.int v2), some (.int v3), some (.int v4), some (.int (v5 + 1))]) rfl rfl ?_
      refine G_goto h dX1_mostAlike_48 (tgt := 6) (by decide) ?_
      exact hk6 _ _ _ _ _ _ h_v0 hf
    · have hf := it_t c2 hf
      refine G_iload h dX1_mostAlike_23 rfl rfl ?_
      refine G_aload_n h dX1_mostAlike_25 (i := 0) rfl rfl rfl ?_
      refine G_iload_n h dX1_mostAlike_26 (i := 1) rfl rfl rfl ?_
      refine G_aload_n h dX1_mostAlike_27 (i := 0) rfl rfl rfl ?_
      refine G_iload h dX1_mostAlike_28 rfl rfl ?_
      refine G_iload_n h dX1_mostAlike_30 (i := 2) rfl rfl rfl ?_
      refine G_iload_n h dX1_mostAlike_31 (i := 3) rfl rfl rfl ?_
      refine cl_X1_33_k5 h (ok_X6_answer hE _ h_v0 (r := f_X6_answer E M v0 v5 v2 v3) rfl) dX1_mostAlike_32 h_v0 (as := [.int v5, .int v2, .int v3]) rfl rfl ⟨rfl, rfl, Nat.le_of_ble_eq_true rfl, Nat.le_of_ble_eq_true rfl⟩ rfl (Nat.le_of_ble_eq_true rfl) ?_
      refine G_iload_n h dX1_mostAlike_35 (i := 2) rfl rfl rfl ?_
      refine G_iload_n h dX1_mostAlike_36 (i := 3) rfl rfl rfl ?_
      obtain ⟨x3, hx3, hf⟩ := bd hf
      refine cl_X1_37_k5 h (ok_X1_alike_k5 hE _ h_v0 hx3) dX1_mostAlike_37 h_v0 (as := [.int v1, .int (f_X6_answer E M v0 v5 v2 v3), .int v2, .int v3]) rfl rfl ⟨rfl, rfl, Nat.le_of_ble_eq_true rfl, Nat.le_of_ble_eq_true rfl⟩ rfl (Nat.le_of_ble_eq_true rfl) ?_
      refine cm_X1_41 h dX1_mostAlike_40 (Nat.le_of_ble_eq_true rfl) (Nat.le_of_ble_eq_true rfl) rfl ?_
      refine G_istore h dX1_mostAlike_43  (by decide) (L' := [some (.ref v0), some (.int v1), some (.int v2), some (.int v3), some (.int (jmax v4 x3)), some (.int v5)]) rfl rfl ?_
      refine G_iinc2 h dX1_mostAlike_45 rfl ki_1 (by decide) (L' := [some (.ref v0), some (.int v1), some (.int v2), some (.int v3), some (.int (jmax v4 x3)), some (.int (v5 + 1))]) rfl rfl ?_
      refine G_goto h dX1_mostAlike_48 (tgt := 6) (by decide) ?_
      exact hk6 _ _ _ _ _ _ h_v0 hf
def f_X1_mostAlike_k5_L6 (E : Env1) (M : Mem) : Nat → Nat → Int32 → Int32 → Int32 → Int32 → Int32 → (Option (Int32))
  | 0 => fun _ _ _ _ _ _ => none
  | n + 1 => b_X1_mostAlike_k5_L6 E M (f_X1_mostAlike_k5_L6 E M n)
theorem o_X1_mostAlike_k5_L6 {X : Ctx} {l0 : Launch} {E : Env1} (h : Cx X l0 E RX1 cX1_mostAlike (some .int) 6 rm_X1_mostAlike_k5) (hE : WF E) {M : Mem} {r : Int32} (hR : RetI X E cX1_mostAlike r M) : ∀ (n : Nat) (v0 : Nat) (v1 : Int32) (v2 : Int32) (v3 : Int32) (v4 : Int32) (v5 : Int32), isK E v0 5 → f_X1_mostAlike_k5_L6 E M n v0 v1 v2 v3 v4 v5 = some r → G X E (0, 0) 6 [some (.ref v0), some (.int v1), some (.int v2), some (.int v3), some (.int v4), some (.int v5)] [] M := by
  intro n
  induction n with
  | zero =>
    intro _ _ _ _ _ _ a0 hf
    have h0 : (none : Option (Int32)) = some r := hf
    cases h0
  | succ n ih =>
    intro _ _ _ _ _ _ a0 hf
    exact ob_X1_mostAlike_k5_L6 h hE hR  ih a0 hf
def f_X1_mostAlike_k5 (E : Env1) (M : Mem) (v0 : Nat) (v1 : Int32) (v2 : Int32) (v3 : Int32) : Option (Int32) :=
  f_X1_mostAlike_k5_L6 E M FU v0 v1 v2 v3 (0 : Int32) (0 : Int32)
set_option maxRecDepth 100000 in
set_option maxHeartbeats 4000000 in
theorem ok_X1_mostAlike_k5 {E : Env1} (hE : WF E) (l0 : Launch) {M : Mem} {v0 : Nat} {v1 : Int32} {v2 : Int32} {v3 : Int32} {r : Int32} (h0 : isK E v0 5) (hf : f_X1_mostAlike_k5 E M v0 v1 v2 v3 = some r) : Met l0 yX1_mostAlike (wsA yX1_mostAlike cX1_mostAlike 6 (some .int)) rm_X1_mostAlike_k5 (CP E M [.ref v0, .int v1, .int v2, .int v3]) (CQi E r M) 0 0 (eA E) := by
  unfold f_X1_mostAlike_k5 at hf
  refine mtI l0 (by decide +kernel) (Nat.le_of_ble_eq_true rfl) (L0 := [some (.ref v0), some (.int v1), some (.int v2), some (.int v3), none, none]) rfl (fun X h hR => ?_)
  refine G_iconst h dX1_mostAlike_0 ki_0 rfl ?_
  refine G_istore h dX1_mostAlike_1  (by decide) (L' := [some (.ref v0), some (.int v1), some (.int v2), some (.int v3), some (.int (0 : Int32)), none]) rfl rfl ?_
  refine G_iconst h dX1_mostAlike_3 ki_0 rfl ?_
  refine G_istore h dX1_mostAlike_4  (by decide) (L' := [some (.ref v0), some (.int v1), some (.int v2), some (.int v3), some (.int (0 : Int32)), some (.int (0 : Int32))]) rfl rfl ?_
  exact o_X1_mostAlike_k5_L6 h hE hR  FU _ _ _ _ _ _ h0 hf
def rm_X6_bestQuestion : Room := { frames := 4, cells := 0, slots := 0, locals := 98 }
def b_X6_bestQuestion_L17 (E : Env1) (M : Mem) (k8 : Nat → Int32 → Int32 → Int32 → Int32 → (Option (Int32))) (k17 : Nat → Int32 → Int32 → Int32 → Int32 → Int32 → (Option (Int32))) (v0 : Nat) (v1 : Int32) (v2 : Int32) (v3 : Int32) (v4 : Int32) (v5 : Int32) : Option (Int32) :=
  if (12 : Int32) < v5 then (k8 v0 v1 v2 v3 (v4 + 1))
  else (
    (f_X1_mostAlike_k5 E M v0 v1 v5 v4).bind fun x2 =>
    if v3 ≤ x2 then (k17 v0 v1 v2 v3 v4 (v5 + 1))
    else (k17 v0 v1 (((100 : Int32) * v4) + v5) x2 v4 (v5 + 1)))
set_option maxRecDepth 100000 in
set_option maxHeartbeats 4000000 in
theorem ob_X6_bestQuestion_L17 {X : Ctx} {l0 : Launch} {E : Env1} (h : Cx X l0 E RX6 cX6_bestQuestion (some .int) 7 rm_X6_bestQuestion) (hE : WF E) {M : Mem} {r : Int32} (hR : RetI X E cX6_bestQuestion r M) {k8 : Nat → Int32 → Int32 → Int32 → Int32 → (Option (Int32))} (hk8 : ∀ (v0 : Nat) (v1 : Int32) (v2 : Int32) (v3 : Int32) (v4 : Int32), isK E v0 5 → k8 v0 v1 v2 v3 v4 = some r → G X E (0, 0) 8 [some (.ref v0), some (.int v1), some (.int v2), some (.int v3), some (.int v4), none, none] [] M) {k17 : Nat → Int32 → Int32 → Int32 → Int32 → Int32 → (Option (Int32))} (hk17 : ∀ (v0 : Nat) (v1 : Int32) (v2 : Int32) (v3 : Int32) (v4 : Int32) (v5 : Int32), isK E v0 5 → k17 v0 v1 v2 v3 v4 v5 = some r → G X E (0, 0) 17 [some (.ref v0), some (.int v1), some (.int v2), some (.int v3), some (.int v4), some (.int v5), none] [] M) {v0 : Nat} {v1 : Int32} {v2 : Int32} {v3 : Int32} {v4 : Int32} {v5 : Int32} (h_v0 : isK E v0 5) (hf : b_X6_bestQuestion_L17 E M k8 k17 v0 v1 v2 v3 v4 v5 = some r) : G X E (0, 0) 17 [some (.ref v0), some (.int v1), some (.int v2), some (.int v3), some (.int v4), some (.int v5), none] [] M := by
  unfold b_X6_bestQuestion_L17 at hf
  refine G_iload h dX6_bestQuestion_17 rfl rfl ?_
  refine G_bipush h dX6_bestQuestion_19 kb_12 rfl ?_
  refine G_icmp_gt h dX6_bestQuestion_21 (tgt := 59) (by decide) rfl (fun c1 => ?_) (fun c1 => ?_)
  · have hf := it_t c1 hf
    refine G_iinc2 h dX6_bestQuestion_59 rfl ki_1 (by decide) (L' := [some (.ref v0), some (.int v1), some (.int v2), some (.int v3), some (.int (v4 + 1)), some (.int v5), none]) rfl rfl ?_
    refine G_goto h dX6_bestQuestion_62 (tgt := 8) (by decide) ?_
    refine G_mskL [true, true, true, true, true, false, false] (L' := [some (.ref v0), some (.int v1), some (.int v2), some (.int v3), some (.int (v4 + 1)), none, none]) rfl ?_
    exact hk8 _ _ _ _ _ h_v0 hf
  · have hf := it_f c1 hf
    refine G_aload_n h dX6_bestQuestion_24 (i := 0) rfl rfl rfl ?_
    refine G_iload_n h dX6_bestQuestion_25 (i := 1) rfl rfl rfl ?_
    refine G_iload h dX6_bestQuestion_26 rfl rfl ?_
    refine G_iload h dX6_bestQuestion_28 rfl rfl ?_
    obtain ⟨x2, hx2, hf⟩ := bd hf
    refine cl_X6_15_k5 h (ok_X1_mostAlike_k5 hE _ h_v0 hx2) dX6_bestQuestion_30 h_v0 (as := [.int v1, .int v5, .int v4]) rfl rfl ⟨rfl, rfl, Nat.le_of_ble_eq_true rfl, Nat.le_of_ble_eq_true rfl⟩ rfl (Nat.le_of_ble_eq_true rfl) ?_
    refine G_istore h dX6_bestQuestion_33  (by decide) (L' := [some (.ref v0), some (.int v1), some (.int v2), some (.int v3), some (.int v4), some (.int v5), some (.int x2)]) rfl rfl ?_
    refine G_iload h dX6_bestQuestion_35 rfl rfl ?_
    refine G_iload_n h dX6_bestQuestion_37 (i := 3) rfl rfl rfl ?_
    refine G_icmp_ge h dX6_bestQuestion_38 (tgt := 53) (by decide) rfl (fun c3 => ?_) (fun c3 => ?_)
    · have hf := it_t c3 hf
      refine G_iinc2 h dX6_bestQuestion_53 rfl ki_1 (by decide) (L' := [some (.ref v0), some (.int v1), some (.int v2), some (.int v3), some (.int v4), some (.int (v5 + 1)), some (.int x2)]) rfl rfl ?_
      refine G_goto h dX6_bestQuestion_56 (tgt := 17) (by decide) ?_
      refine G_mskL [true, true, true, true, true, true, false] (L' := [some (.ref v0), some (.int v1), some (.int v2), some (.int v3), some (.int v4), some (.int (v5 + 1)), none]) rfl ?_
      exact hk17 _ _ _ _ _ _ h_v0 hf
    · have hf := it_f c3 hf
      refine G_iload h dX6_bestQuestion_41 rfl rfl ?_
      refine G_istore_n h dX6_bestQuestion_43 (i := 3) rfl (by decide) (L' := [some (.ref v0), some (.int v1), some (.int v2), some (.int x2), some (.int v4), some (.int v5), some (.int x2)]) rfl rfl ?_
      refine G_bipush h dX6_bestQuestion_44 kb_100 rfl ?_
      refine G_iload h dX6_bestQuestion_46 rfl rfl ?_
      refine G_imul h dX6_bestQuestion_48 rfl ?_
      refine G_iload h dX6_bestQuestion_49 rfl rfl ?_
      refine G_iadd h dX6_bestQuestion_51 rfl ?_
      refine G_istore_n h dX6_bestQuestion_52 (i := 2) rfl (by decide) (L' := [some (.ref v0), some (.int v1), some (.int (((100 : Int32) * v4) + v5)), some (.int x2), some (.int v4), some (.int v5), some (.int x2)]) rfl rfl ?_
      refine G_iinc2 h dX6_bestQuestion_53 rfl ki_1 (by decide) (L' := [some (.ref v0), some (.int v1), some (.int (((100 : Int32) * v4) + v5)), some (.int x2), some (.int v4), some (.int (v5 + 1)), some (.int x2)]) rfl rfl ?_
      refine G_goto h dX6_bestQuestion_56 (tgt := 17) (by decide) ?_
      refine G_mskL [true, true, true, true, true, true, false] (L' := [some (.ref v0), some (.int v1), some (.int (((100 : Int32) * v4) + v5)), some (.int x2), some (.int v4), some (.int (v5 + 1)), none]) rfl ?_
      exact hk17 _ _ _ _ _ _ h_v0 hf
def f_X6_bestQuestion_L17 (E : Env1) (M : Mem) (k8 : Nat → Int32 → Int32 → Int32 → Int32 → (Option (Int32))) : Nat → Nat → Int32 → Int32 → Int32 → Int32 → Int32 → (Option (Int32))
  | 0 => fun _ _ _ _ _ _ => none
  | n + 1 => b_X6_bestQuestion_L17 E M k8 (f_X6_bestQuestion_L17 E M k8 n)
theorem o_X6_bestQuestion_L17 {X : Ctx} {l0 : Launch} {E : Env1} (h : Cx X l0 E RX6 cX6_bestQuestion (some .int) 7 rm_X6_bestQuestion) (hE : WF E) {M : Mem} {r : Int32} (hR : RetI X E cX6_bestQuestion r M) {k8 : Nat → Int32 → Int32 → Int32 → Int32 → (Option (Int32))} (hk8 : ∀ (v0 : Nat) (v1 : Int32) (v2 : Int32) (v3 : Int32) (v4 : Int32), isK E v0 5 → k8 v0 v1 v2 v3 v4 = some r → G X E (0, 0) 8 [some (.ref v0), some (.int v1), some (.int v2), some (.int v3), some (.int v4), none, none] [] M) : ∀ (n : Nat) (v0 : Nat) (v1 : Int32) (v2 : Int32) (v3 : Int32) (v4 : Int32) (v5 : Int32), isK E v0 5 → f_X6_bestQuestion_L17 E M k8 n v0 v1 v2 v3 v4 v5 = some r → G X E (0, 0) 17 [some (.ref v0), some (.int v1), some (.int v2), some (.int v3), some (.int v4), some (.int v5), none] [] M := by
  intro n
  induction n with
  | zero =>
    intro _ _ _ _ _ _ a0 hf
    have h0 : (none : Option (Int32)) = some r := hf
    cases h0
  | succ n ih =>
    intro _ _ _ _ _ _ a0 hf
    exact ob_X6_bestQuestion_L17 h hE hR hk8 ih a0 hf
def b_X6_bestQuestion_L8 (E : Env1) (M : Mem) (k8 : Nat → Int32 → Int32 → Int32 → Int32 → (Option (Int32))) (v0 : Nat) (v1 : Int32) (v2 : Int32) (v3 : Int32) (v4 : Int32) : Option (Int32) :=
  if (1 : Int32) < v4 then (some v2)
  else (f_X6_bestQuestion_L17 E M k8 FU v0 v1 v2 v3 v4 (1 : Int32))
set_option maxRecDepth 100000 in
set_option maxHeartbeats 4000000 in
theorem ob_X6_bestQuestion_L8 {X : Ctx} {l0 : Launch} {E : Env1} (h : Cx X l0 E RX6 cX6_bestQuestion (some .int) 7 rm_X6_bestQuestion) (hE : WF E) {M : Mem} {r : Int32} (hR : RetI X E cX6_bestQuestion r M) {k8 : Nat → Int32 → Int32 → Int32 → Int32 → (Option (Int32))} (hk8 : ∀ (v0 : Nat) (v1 : Int32) (v2 : Int32) (v3 : Int32) (v4 : Int32), isK E v0 5 → k8 v0 v1 v2 v3 v4 = some r → G X E (0, 0) 8 [some (.ref v0), some (.int v1), some (.int v2), some (.int v3), some (.int v4), none, none] [] M) {v0 : Nat} {v1 : Int32} {v2 : Int32} {v3 : Int32} {v4 : Int32} (h_v0 : isK E v0 5) (hf : b_X6_bestQuestion_L8 E M k8 v0 v1 v2 v3 v4 = some r) : G X E (0, 0) 8 [some (.ref v0), some (.int v1), some (.int v2), some (.int v3), some (.int v4), none, none] [] M := by
  unfold b_X6_bestQuestion_L8 at hf
  refine G_iload h dX6_bestQuestion_8 rfl rfl ?_
  refine G_iconst h dX6_bestQuestion_10 ki_1 rfl ?_
  refine G_icmp_gt h dX6_bestQuestion_11 (tgt := 65) (by decide) rfl (fun c1 => ?_) (fun c1 => ?_)
  · have hf := it_t c1 hf
    refine G_iload_n h dX6_bestQuestion_65 (i := 2) rfl rfl rfl ?_
    exact roI hR dX6_bestQuestion_66 hf
  · have hf := it_f c1 hf
    refine G_iconst h dX6_bestQuestion_14 ki_1 rfl ?_
    refine G_istore h dX6_bestQuestion_15  (by decide) (L' := [some (.ref v0), some (.int v1), some (.int v2), some (.int v3), some (.int v4), some (.int (1 : Int32)), none]) rfl rfl ?_
    exact o_X6_bestQuestion_L17 h hE hR hk8 FU _ _ _ _ _ _ h_v0 hf
def f_X6_bestQuestion_L8 (E : Env1) (M : Mem) : Nat → Nat → Int32 → Int32 → Int32 → Int32 → (Option (Int32))
  | 0 => fun _ _ _ _ _ => none
  | n + 1 => b_X6_bestQuestion_L8 E M (f_X6_bestQuestion_L8 E M n)
theorem o_X6_bestQuestion_L8 {X : Ctx} {l0 : Launch} {E : Env1} (h : Cx X l0 E RX6 cX6_bestQuestion (some .int) 7 rm_X6_bestQuestion) (hE : WF E) {M : Mem} {r : Int32} (hR : RetI X E cX6_bestQuestion r M) : ∀ (n : Nat) (v0 : Nat) (v1 : Int32) (v2 : Int32) (v3 : Int32) (v4 : Int32), isK E v0 5 → f_X6_bestQuestion_L8 E M n v0 v1 v2 v3 v4 = some r → G X E (0, 0) 8 [some (.ref v0), some (.int v1), some (.int v2), some (.int v3), some (.int v4), none, none] [] M := by
  intro n
  induction n with
  | zero =>
    intro _ _ _ _ _ a0 hf
    have h0 : (none : Option (Int32)) = some r := hf
    cases h0
  | succ n ih =>
    intro _ _ _ _ _ a0 hf
    exact ob_X6_bestQuestion_L8 h hE hR  ih a0 hf
def f_X6_bestQuestion (E : Env1) (M : Mem) (v0 : Nat) (v1 : Int32) : Option (Int32) :=
  f_X6_bestQuestion_L8 E M FU v0 v1 (-1 : Int32) (7 : Int32) (0 : Int32)
set_option maxRecDepth 100000 in
set_option maxHeartbeats 4000000 in
theorem ok_X6_bestQuestion {E : Env1} (hE : WF E) (l0 : Launch) {M : Mem} {v0 : Nat} {v1 : Int32} {r : Int32} (h0 : isK E v0 5) (hf : f_X6_bestQuestion E M v0 v1 = some r) : Met l0 yX6_bestQuestion (wsA yX6_bestQuestion cX6_bestQuestion 7 (some .int)) rm_X6_bestQuestion (CP E M [.ref v0, .int v1]) (CQi E r M) 0 0 (eA E) := by
  unfold f_X6_bestQuestion at hf
  refine mtI l0 (by decide +kernel) (Nat.le_of_ble_eq_true rfl) (L0 := [some (.ref v0), some (.int v1), none, none, none, none, none]) rfl (fun X h hR => ?_)
  refine G_iconst h dX6_bestQuestion_0 ki_m1 rfl ?_
  refine G_istore_n h dX6_bestQuestion_1 (i := 2) rfl (by decide) (L' := [some (.ref v0), some (.int v1), some (.int (-1 : Int32)), none, none, none, none]) rfl rfl ?_
  refine G_bipush h dX6_bestQuestion_2 kb_7 rfl ?_
  refine G_istore_n h dX6_bestQuestion_4 (i := 3) rfl (by decide) (L' := [some (.ref v0), some (.int v1), some (.int (-1 : Int32)), some (.int (7 : Int32)), none, none, none]) rfl rfl ?_
  refine G_iconst h dX6_bestQuestion_5 ki_0 rfl ?_
  refine G_istore h dX6_bestQuestion_6  (by decide) (L' := [some (.ref v0), some (.int v1), some (.int (-1 : Int32)), some (.int (7 : Int32)), some (.int (0 : Int32)), none, none]) rfl rfl ?_
  exact o_X6_bestQuestion_L8 h hE hR  FU _ _ _ _ _ h0 hf
def rm_X1_fits_k1 : Room := { frames := 2, cells := 0, slots := 0, locals := 45 }
def b_X1_fits_k1_L3 (E : Env1) (M : Mem) (k3 : Nat → Int32 → Nat → Int32 → Int32 → (Option (Int32))) (v0 : Nat) (v1 : Int32) (v2 : Nat) (v3 : Int32) (v4 : Int32) : Option (Int32) :=
  if (mi M v2 0) ≤ v4 then (some (1 : Int32))
  else (
    (f_X4_cell E M v2 v4 (0 : Int32)).bind fun x2 =>
    nm (if x2 = v3 then (1 : Int32) else (0 : Int32)) fun x4 =>
    if x4 = 0 then (k3 v0 v1 v2 v3 (v4 + 1))
    else (
      (f_X4_cell E M v2 v4 (1 : Int32)).bind fun x6 =>
      (f_X4_cell E M v2 v4 (2 : Int32)).bind fun x7 =>
      (f_X4_cell E M v2 v4 (3 : Int32)).bind fun x8 =>
      if (f_X2_answer E M v0 v1 x6 x7) = x8 then (k3 v0 v1 v2 v3 (v4 + 1))
      else (some (0 : Int32))))
set_option maxRecDepth 100000 in
set_option maxHeartbeats 4000000 in
theorem ob_X1_fits_k1_L3 {X : Ctx} {l0 : Launch} {E : Env1} (h : Cx X l0 E RX1 cX1_fits (some .boolean) 6 rm_X1_fits_k1) (hE : WF E) {M : Mem} {r : Int32} (hR : RetZ X E cX1_fits r M) {k3 : Nat → Int32 → Nat → Int32 → Int32 → (Option (Int32))} (hk3 : ∀ (v0 : Nat) (v1 : Int32) (v2 : Nat) (v3 : Int32) (v4 : Int32), isK E v0 1 → isK E v2 3 → k3 v0 v1 v2 v3 v4 = some r → G X E (0, 0) 3 [some (.ref v0), some (.int v1), some (.ref v2), some (.int v3), some (.int v4), none] [] M) {v0 : Nat} {v1 : Int32} {v2 : Nat} {v3 : Int32} {v4 : Int32} (h_v0 : isK E v0 1) (h_v2 : isK E v2 3) (hf : b_X1_fits_k1_L3 E M k3 v0 v1 v2 v3 v4 = some r) : G X E (0, 0) 3 [some (.ref v0), some (.int v1), some (.ref v2), some (.int v3), some (.int v4), none] [] M := by
  unfold b_X1_fits_k1_L3 at hf
  refine G_iload h dX1_fits_3 rfl rfl ?_
  refine G_aload_n h dX1_fits_5 (i := 2) rfl rfl rfl ?_
  refine gf_X1_23 h dX1_fits_6 h_v2 rfl ?_
  refine G_icmp_ge h dX1_fits_9 (tgt := 72) (by decide) rfl (fun c1 => ?_) (fun c1 => ?_)
  · have hf := it_t c1 hf
    refine G_iconst h dX1_fits_72 ki_1 rfl ?_
    exact roZ hR dX1_fits_73 (Or.inr rfl) hf
  · have hf := it_f c1 hf
    refine G_aload_n h dX1_fits_12 (i := 2) rfl rfl rfl ?_
    refine G_iload h dX1_fits_13 rfl rfl ?_
    refine G_iconst h dX1_fits_15 ki_0 rfl ?_
    obtain ⟨x2, hx2, hf⟩ := bd hf
    refine cl_X1_29_k3 h (ok_X4_cell hE _ h_v2 hx2) dX1_fits_16 h_v2 (as := [.int v4, .int (0 : Int32)]) rfl rfl ⟨rfl, rfl, Nat.le_of_ble_eq_true rfl, Nat.le_of_ble_eq_true rfl⟩ rfl (Nat.le_of_ble_eq_true rfl) ?_
    refine G_iload_n h dX1_fits_19 (i := 3) rfl rfl rfl ?_
    have hJ : G X E (0, 0) 28 [some (.ref v0), some (.int v1), some (.ref v2), some (.int v3), some (.int v4), none] [.int (if x2 = v3 then (1 : Int32) else (0 : Int32))] M := by
      refine G_nmi (fun x4 hx4 => ?_)
      have hf := nm_eq hx4 hf
      refine G_istore h dX1_fits_28  (by decide) (L' := [some (.ref v0), some (.int v1), some (.ref v2), some (.int v3), some (.int v4), some (.int x4)]) rfl rfl ?_
      refine G_iload h dX1_fits_30 rfl rfl ?_
      refine G_if_eq h dX1_fits_32 (tgt := 66) (by decide) rfl (fun c5 => ?_) (fun c5 => ?_)
      · have hf := it_t c5 hf
        refine G_iinc2 h dX1_fits_66 rfl ki_1 (by decide) (L' := [some (.ref v0), some (.int v1), some (.ref v2), some (.int v3), some (.int (v4 + 1)), some (.int x4)]) rfl rfl ?_
        refine G_goto h dX1_fits_69 (tgt := 3) (by decide) ?_
        refine G_mskL [true, true, true, true, true, false] (L' := [some (.ref v0), some (.int v1), some (.ref v2), some (.int v3), some (.int (v4 + 1)), none]) rfl ?_
        exact hk3 _ _ _ _ _ h_v0 h_v2 hf
      · have hf := it_f c5 hf
        refine G_aload_n h dX1_fits_35 (i := 0) rfl rfl rfl ?_
        refine G_iload_n h dX1_fits_36 (i := 1) rfl rfl rfl ?_
        refine G_aload_n h dX1_fits_37 (i := 2) rfl rfl rfl ?_
        refine G_iload h dX1_fits_38 rfl rfl ?_
        refine G_iconst h dX1_fits_40 ki_1 rfl ?_
        obtain ⟨x6, hx6, hf⟩ := bd hf
        refine cl_X1_29_k3 h (ok_X4_cell hE _ h_v2 hx6) dX1_fits_41 h_v2 (as := [.int v4, .int (1 : Int32)]) rfl rfl ⟨rfl, rfl, Nat.le_of_ble_eq_true rfl, Nat.le_of_ble_eq_true rfl⟩ rfl (Nat.le_of_ble_eq_true rfl) ?_
        refine G_aload_n h dX1_fits_44 (i := 2) rfl rfl rfl ?_
        refine G_iload h dX1_fits_45 rfl rfl ?_
        refine G_iconst h dX1_fits_47 ki_2 rfl ?_
        obtain ⟨x7, hx7, hf⟩ := bd hf
        refine cl_X1_29_k3 h (ok_X4_cell hE _ h_v2 hx7) dX1_fits_48 h_v2 (as := [.int v4, .int (2 : Int32)]) rfl rfl ⟨rfl, rfl, Nat.le_of_ble_eq_true rfl, Nat.le_of_ble_eq_true rfl⟩ rfl (Nat.le_of_ble_eq_true rfl) ?_
        refine cl_X1_33_k1 h (ok_X2_answer hE _ h_v0 (r := f_X2_answer E M v0 v1 x6 x7) rfl) dX1_fits_51 h_v0 (as := [.int v1, .int x6, .int x7]) rfl rfl ⟨rfl, rfl, Nat.le_of_ble_eq_true rfl, Nat.le_of_ble_eq_true rfl⟩ rfl (Nat.le_of_ble_eq_true rfl) ?_
        refine G_aload_n h dX1_fits_54 (i := 2) rfl rfl rfl ?_
        refine G_iload h dX1_fits_55 rfl rfl ?_
        refine G_iconst h dX1_fits_57 ki_3 rfl ?_
        obtain ⟨x8, hx8, hf⟩ := bd hf
        refine cl_X1_29_k3 h (ok_X4_cell hE _ h_v2 hx8) dX1_fits_58 h_v2 (as := [.int v4, .int (3 : Int32)]) rfl rfl ⟨rfl, rfl, Nat.le_of_ble_eq_true rfl, Nat.le_of_ble_eq_true rfl⟩ rfl (Nat.le_of_ble_eq_true rfl) ?_
        refine G_icmp_eq h dX1_fits_61 (tgt := 66) (by decide) rfl (fun c9 => ?_) (fun c9 => ?_)
        · have hf := it_t c9 hf
          refine G_iinc2 h dX1_fits_66 rfl ki_1 (by decide) (L' := [some (.ref v0), some (.int v1), some (.ref v2), some (.int v3), some (.int (v4 + 1)), some (.int x4)]) rfl rfl ?_
          refine G_goto h dX1_fits_69 (tgt := 3) (by decide) ?_
          refine G_mskL [true, true, true, true, true, false] (L' := [some (.ref v0), some (.int v1), some (.ref v2), some (.int v3), some (.int (v4 + 1)), none]) rfl ?_
          exact hk3 _ _ _ _ _ h_v0 h_v2 hf
        · have hf := it_f c9 hf
          refine G_iconst h dX1_fits_64 ki_0 rfl ?_
          exact roZ hR dX1_fits_65 (Or.inl rfl) hf
    refine G_icmp_ne h dX1_fits_20 (tgt := 27) (by decide) rfl (fun c3 => ?_) (fun c3 => ?_)
    · refine G_iconst h dX1_fits_27 ki_0 rfl ?_
      exact G_ifn c3 hJ
    · refine G_iconst h dX1_fits_23 ki_1 rfl ?_
      refine G_goto h dX1_fits_24 (tgt := 28) (by decide) ?_
      exact G_ifp c3 hJ
def f_X1_fits_k1_L3 (E : Env1) (M : Mem) : Nat → Nat → Int32 → Nat → Int32 → Int32 → (Option (Int32))
  | 0 => fun _ _ _ _ _ => none
  | n + 1 => b_X1_fits_k1_L3 E M (f_X1_fits_k1_L3 E M n)
theorem o_X1_fits_k1_L3 {X : Ctx} {l0 : Launch} {E : Env1} (h : Cx X l0 E RX1 cX1_fits (some .boolean) 6 rm_X1_fits_k1) (hE : WF E) {M : Mem} {r : Int32} (hR : RetZ X E cX1_fits r M) : ∀ (n : Nat) (v0 : Nat) (v1 : Int32) (v2 : Nat) (v3 : Int32) (v4 : Int32), isK E v0 1 → isK E v2 3 → f_X1_fits_k1_L3 E M n v0 v1 v2 v3 v4 = some r → G X E (0, 0) 3 [some (.ref v0), some (.int v1), some (.ref v2), some (.int v3), some (.int v4), none] [] M := by
  intro n
  induction n with
  | zero =>
    intro _ _ _ _ _ a0 a1 hf
    have h0 : (none : Option (Int32)) = some r := hf
    cases h0
  | succ n ih =>
    intro _ _ _ _ _ a0 a1 hf
    exact ob_X1_fits_k1_L3 h hE hR  ih a0 a1 hf
def f_X1_fits_k1 (E : Env1) (M : Mem) (v0 : Nat) (v1 : Int32) (v2 : Nat) (v3 : Int32) : Option (Int32) :=
  f_X1_fits_k1_L3 E M FU v0 v1 v2 v3 (0 : Int32)
set_option maxRecDepth 100000 in
set_option maxHeartbeats 4000000 in
theorem ok_X1_fits_k1 {E : Env1} (hE : WF E) (l0 : Launch) {M : Mem} {v0 : Nat} {v1 : Int32} {v2 : Nat} {v3 : Int32} {r : Int32} (h0 : isK E v0 1) (h2 : isK E v2 3) (hf : f_X1_fits_k1 E M v0 v1 v2 v3 = some r) : Met l0 yX1_fits (wsA yX1_fits cX1_fits 6 (some .boolean)) rm_X1_fits_k1 (CP E M [.ref v0, .int v1, .ref v2, .int v3]) (CQz E r M) 0 0 (eA E) := by
  unfold f_X1_fits_k1 at hf
  refine mtZ l0 (by decide +kernel) (Nat.le_of_ble_eq_true rfl) (L0 := [some (.ref v0), some (.int v1), some (.ref v2), some (.int v3), none, none]) rfl (fun X h hR => ?_)
  refine G_iconst h dX1_fits_0 ki_0 rfl ?_
  refine G_istore h dX1_fits_1  (by decide) (L' := [some (.ref v0), some (.int v1), some (.ref v2), some (.int v3), some (.int (0 : Int32)), none]) rfl rfl ?_
  exact o_X1_fits_k1_L3 h hE hR  FU _ _ _ _ _ h0 h2 hf
def rm_X1_fitting_k1 : Room := { frames := 3, cells := 0, slots := 0, locals := 70 }
def b_X1_fitting_k1_L5 (E : Env1) (M : Mem) (k5 : Nat → Nat → Int32 → Int32 → Int32 → (Option (Int32))) (v0 : Nat) (v1 : Nat) (v2 : Int32) (v3 : Int32) (v4 : Int32) : Option (Int32) :=
  if (6 : Int32) ≤ v4 then (some v3)
  else (
    (f_X1_fits_k1 E M v0 v4 v1 v2).bind fun x3 =>
    if x3 = 0 then (k5 v0 v1 v2 v3 (v4 + 1))
    else (
      nm (v3 ||| ((1 : Int32) <<< (v4 &&& 31))) fun x5 =>
      k5 v0 v1 v2 x5 (v4 + 1)))
set_option maxRecDepth 100000 in
set_option maxHeartbeats 4000000 in
theorem ob_X1_fitting_k1_L5 {X : Ctx} {l0 : Launch} {E : Env1} (h : Cx X l0 E RX1 cX1_fitting (some .int) 5 rm_X1_fitting_k1) (hE : WF E) {M : Mem} {r : Int32} (hR : RetI X E cX1_fitting r M) {k5 : Nat → Nat → Int32 → Int32 → Int32 → (Option (Int32))} (hk5 : ∀ (v0 : Nat) (v1 : Nat) (v2 : Int32) (v3 : Int32) (v4 : Int32), isK E v0 1 → isK E v1 3 → k5 v0 v1 v2 v3 v4 = some r → G X E (0, 0) 5 [some (.ref v0), some (.ref v1), some (.int v2), some (.int v3), some (.int v4)] [] M) {v0 : Nat} {v1 : Nat} {v2 : Int32} {v3 : Int32} {v4 : Int32} (h_v0 : isK E v0 1) (h_v1 : isK E v1 3) (hf : b_X1_fitting_k1_L5 E M k5 v0 v1 v2 v3 v4 = some r) : G X E (0, 0) 5 [some (.ref v0), some (.ref v1), some (.int v2), some (.int v3), some (.int v4)] [] M := by
  unfold b_X1_fitting_k1_L5 at hf
  refine G_iload h dX1_fitting_5 rfl rfl ?_
  refine G_bipush h dX1_fitting_7 kb_6 rfl ?_
  refine G_icmp_ge h dX1_fitting_9 (tgt := 36) (by decide) rfl (fun c1 => ?_) (fun c1 => ?_)
  · have hf := it_t c1 hf
    refine G_iload_n h dX1_fitting_36 (i := 3) rfl rfl rfl ?_
    exact roI hR dX1_fitting_37 hf
  · have hf := it_f c1 hf
    refine G_aload_n h dX1_fitting_12 (i := 0) rfl rfl rfl ?_
    refine G_iload h dX1_fitting_13 rfl rfl ?_
    refine G_aload_n h dX1_fitting_15 (i := 1) rfl rfl rfl ?_
    refine G_iload_n h dX1_fitting_16 (i := 2) rfl rfl rfl ?_
    obtain ⟨x3, hx3, hf⟩ := bd hf
    refine cl_X1_9_k1 h (ok_X1_fits_k1 hE _ h_v0 h_v1 hx3) dX1_fitting_17 h_v0 (as := [.int v4, .ref v1, .int v2]) rfl rfl ⟨rfl, rfl, Nat.le_of_ble_eq_true rfl, Nat.le_of_ble_eq_true rfl⟩ rfl (Nat.le_of_ble_eq_true rfl) (fun z2 => ?_)
    refine G_if_eq h dX1_fitting_20 (tgt := 30) (by decide) rfl (fun c4 => ?_) (fun c4 => ?_)
    · have hf := it_t c4 hf
      refine G_iinc2 h dX1_fitting_30 rfl ki_1 (by decide) (L' := [some (.ref v0), some (.ref v1), some (.int v2), some (.int v3), some (.int (v4 + 1))]) rfl rfl ?_
      refine G_goto h dX1_fitting_33 (tgt := 5) (by decide) ?_
      exact hk5 _ _ _ _ _ h_v0 h_v1 hf
    · have hf := it_f c4 hf
      refine G_iload_n h dX1_fitting_23 (i := 3) rfl rfl rfl ?_
      refine G_iconst h dX1_fitting_24 ki_1 rfl ?_
      refine G_iload h dX1_fitting_25 rfl rfl ?_
      refine G_ishl h dX1_fitting_27 rfl ?_
      refine G_ior h dX1_fitting_28 rfl ?_
      refine G_nmi (fun x5 hx5 => ?_)
      have hf := nm_eq hx5 hf
      refine G_istore_n h dX1_fitting_29 (i := 3) rfl (by decide) (L' := [some (.ref v0), some (.ref v1), some (.int v2), some (.int x5), some (.int v4)]) rfl rfl ?_
      refine G_iinc2 h dX1_fitting_30 rfl ki_1 (by decide) (L' := [some (.ref v0), some (.ref v1), some (.int v2), some (.int x5), some (.int (v4 + 1))]) rfl rfl ?_
      refine G_goto h dX1_fitting_33 (tgt := 5) (by decide) ?_
      exact hk5 _ _ _ _ _ h_v0 h_v1 hf
def f_X1_fitting_k1_L5 (E : Env1) (M : Mem) : Nat → Nat → Nat → Int32 → Int32 → Int32 → (Option (Int32))
  | 0 => fun _ _ _ _ _ => none
  | n + 1 => b_X1_fitting_k1_L5 E M (f_X1_fitting_k1_L5 E M n)
theorem o_X1_fitting_k1_L5 {X : Ctx} {l0 : Launch} {E : Env1} (h : Cx X l0 E RX1 cX1_fitting (some .int) 5 rm_X1_fitting_k1) (hE : WF E) {M : Mem} {r : Int32} (hR : RetI X E cX1_fitting r M) : ∀ (n : Nat) (v0 : Nat) (v1 : Nat) (v2 : Int32) (v3 : Int32) (v4 : Int32), isK E v0 1 → isK E v1 3 → f_X1_fitting_k1_L5 E M n v0 v1 v2 v3 v4 = some r → G X E (0, 0) 5 [some (.ref v0), some (.ref v1), some (.int v2), some (.int v3), some (.int v4)] [] M := by
  intro n
  induction n with
  | zero =>
    intro _ _ _ _ _ a0 a1 hf
    have h0 : (none : Option (Int32)) = some r := hf
    cases h0
  | succ n ih =>
    intro _ _ _ _ _ a0 a1 hf
    exact ob_X1_fitting_k1_L5 h hE hR  ih a0 a1 hf
def f_X1_fitting_k1 (E : Env1) (M : Mem) (v0 : Nat) (v1 : Nat) (v2 : Int32) : Option (Int32) :=
  f_X1_fitting_k1_L5 E M FU v0 v1 v2 (0 : Int32) (0 : Int32)
set_option maxRecDepth 100000 in
set_option maxHeartbeats 4000000 in
theorem ok_X1_fitting_k1 {E : Env1} (hE : WF E) (l0 : Launch) {M : Mem} {v0 : Nat} {v1 : Nat} {v2 : Int32} {r : Int32} (h0 : isK E v0 1) (h1 : isK E v1 3) (hf : f_X1_fitting_k1 E M v0 v1 v2 = some r) : Met l0 yX1_fitting (wsA yX1_fitting cX1_fitting 5 (some .int)) rm_X1_fitting_k1 (CP E M [.ref v0, .ref v1, .int v2]) (CQi E r M) 0 0 (eA E) := by
  unfold f_X1_fitting_k1 at hf
  refine mtI l0 (by decide +kernel) (Nat.le_of_ble_eq_true rfl) (L0 := [some (.ref v0), some (.ref v1), some (.int v2), none, none]) rfl (fun X h hR => ?_)
  refine G_iconst h dX1_fitting_0 ki_0 rfl ?_
  refine G_istore_n h dX1_fitting_1 (i := 3) rfl (by decide) (L' := [some (.ref v0), some (.ref v1), some (.int v2), some (.int (0 : Int32)), none]) rfl rfl ?_
  refine G_iconst h dX1_fitting_2 ki_0 rfl ?_
  refine G_istore h dX1_fitting_3  (by decide) (L' := [some (.ref v0), some (.ref v1), some (.int v2), some (.int (0 : Int32)), some (.int (0 : Int32))]) rfl rfl ?_
  exact o_X1_fitting_k1_L5 h hE hR  FU _ _ _ _ _ h0 h1 hf
def rm_X1_nextQuestion_k1 : Room := { frames := 4, cells := 0, slots := 0, locals := 102 }
def f_X1_nextQuestion_k1 (E : Env1) (M : Mem) (v0 : Nat) (v1 : Nat) (v2 : Int32) : Option (Int32) :=
  (f_X1_fitting_k1 E M v0 v1 v2).bind fun x1 =>
  if x1 = 0 then (some (-1 : Int32))
  else (
    (f_X2_bestQuestion E M v0 x1).bind fun x3 =>
    some x3)
set_option maxRecDepth 100000 in
set_option maxHeartbeats 4000000 in
theorem ok_X1_nextQuestion_k1 {E : Env1} (hE : WF E) (l0 : Launch) {M : Mem} {v0 : Nat} {v1 : Nat} {v2 : Int32} {r : Int32} (h0 : isK E v0 1) (h1 : isK E v1 3) (hf : f_X1_nextQuestion_k1 E M v0 v1 v2 = some r) : Met l0 yX1_nextQuestion (wsA yX1_nextQuestion cX1_nextQuestion 4 (some .int)) rm_X1_nextQuestion_k1 (CP E M [.ref v0, .ref v1, .int v2]) (CQi E r M) 0 0 (eA E) := by
  unfold f_X1_nextQuestion_k1 at hf
  refine mtI l0 (by decide +kernel) (Nat.le_of_ble_eq_true rfl) (L0 := [some (.ref v0), some (.ref v1), some (.int v2), none]) rfl (fun X h hR => ?_)
  refine G_aload_n h dX1_nextQuestion_0 (i := 0) rfl rfl rfl ?_
  refine G_aload_n h dX1_nextQuestion_1 (i := 1) rfl rfl rfl ?_
  refine G_iload_n h dX1_nextQuestion_2 (i := 2) rfl rfl rfl ?_
  obtain ⟨x1, hx1, hf⟩ := bd hf
  refine cl_X1_15_k1 h (ok_X1_fitting_k1 hE _ h0 h1 hx1) dX1_nextQuestion_3 h0 (as := [.ref v1, .int v2]) rfl rfl ⟨rfl, rfl, Nat.le_of_ble_eq_true rfl, Nat.le_of_ble_eq_true rfl⟩ rfl (Nat.le_of_ble_eq_true rfl) ?_
  refine G_istore_n h dX1_nextQuestion_6 (i := 3) rfl (by decide) (L' := [some (.ref v0), some (.ref v1), some (.int v2), some (.int x1)]) rfl rfl ?_
  refine G_iload_n h dX1_nextQuestion_7 (i := 3) rfl rfl rfl ?_
  refine G_if_ne h dX1_nextQuestion_8 (tgt := 15) (by decide) rfl (fun c2 => ?_) (fun c2 => ?_)
  · have hf := it_f c2 hf
    refine G_aload_n h dX1_nextQuestion_15 (i := 0) rfl rfl rfl ?_
    refine G_iload_n h dX1_nextQuestion_16 (i := 3) rfl rfl rfl ?_
    obtain ⟨x3, hx3, hf⟩ := bd hf
    refine cl_X1_19_k1 h (ok_X2_bestQuestion hE _ h0 hx3) dX1_nextQuestion_17 h0 (as := [.int x1]) rfl rfl ⟨rfl, rfl, Nat.le_of_ble_eq_true rfl, Nat.le_of_ble_eq_true rfl⟩ rfl (Nat.le_of_ble_eq_true rfl) ?_
    exact roI hR dX1_nextQuestion_20 hf
  · have hf := it_t c2 hf
    refine G_iconst h dX1_nextQuestion_11 ki_m1 rfl ?_
    refine G_goto h dX1_nextQuestion_12 (tgt := 20) (by decide) ?_
    exact roI hR dX1_nextQuestion_20 hf
def rm_X1_fits_k5 : Room := { frames := 2, cells := 0, slots := 0, locals := 47 }
def b_X1_fits_k5_L3 (E : Env1) (M : Mem) (k3 : Nat → Int32 → Nat → Int32 → Int32 → (Option (Int32))) (v0 : Nat) (v1 : Int32) (v2 : Nat) (v3 : Int32) (v4 : Int32) : Option (Int32) :=
  if (mi M v2 0) ≤ v4 then (some (1 : Int32))
  else (
    (f_X4_cell E M v2 v4 (0 : Int32)).bind fun x2 =>
    nm (if x2 = v3 then (1 : Int32) else (0 : Int32)) fun x4 =>
    if x4 = 0 then (k3 v0 v1 v2 v3 (v4 + 1))
    else (
      (f_X4_cell E M v2 v4 (1 : Int32)).bind fun x6 =>
      (f_X4_cell E M v2 v4 (2 : Int32)).bind fun x7 =>
      (f_X4_cell E M v2 v4 (3 : Int32)).bind fun x8 =>
      if (f_X6_answer E M v0 v1 x6 x7) = x8 then (k3 v0 v1 v2 v3 (v4 + 1))
      else (some (0 : Int32))))
set_option maxRecDepth 100000 in
set_option maxHeartbeats 4000000 in
theorem ob_X1_fits_k5_L3 {X : Ctx} {l0 : Launch} {E : Env1} (h : Cx X l0 E RX1 cX1_fits (some .boolean) 6 rm_X1_fits_k5) (hE : WF E) {M : Mem} {r : Int32} (hR : RetZ X E cX1_fits r M) {k3 : Nat → Int32 → Nat → Int32 → Int32 → (Option (Int32))} (hk3 : ∀ (v0 : Nat) (v1 : Int32) (v2 : Nat) (v3 : Int32) (v4 : Int32), isK E v0 5 → isK E v2 3 → k3 v0 v1 v2 v3 v4 = some r → G X E (0, 0) 3 [some (.ref v0), some (.int v1), some (.ref v2), some (.int v3), some (.int v4), none] [] M) {v0 : Nat} {v1 : Int32} {v2 : Nat} {v3 : Int32} {v4 : Int32} (h_v0 : isK E v0 5) (h_v2 : isK E v2 3) (hf : b_X1_fits_k5_L3 E M k3 v0 v1 v2 v3 v4 = some r) : G X E (0, 0) 3 [some (.ref v0), some (.int v1), some (.ref v2), some (.int v3), some (.int v4), none] [] M := by
  unfold b_X1_fits_k5_L3 at hf
  refine G_iload h dX1_fits_3 rfl rfl ?_
  refine G_aload_n h dX1_fits_5 (i := 2) rfl rfl rfl ?_
  refine gf_X1_23 h dX1_fits_6 h_v2 rfl ?_
  refine G_icmp_ge h dX1_fits_9 (tgt := 72) (by decide) rfl (fun c1 => ?_) (fun c1 => ?_)
  · have hf := it_t c1 hf
    refine G_iconst h dX1_fits_72 ki_1 rfl ?_
    exact roZ hR dX1_fits_73 (Or.inr rfl) hf
  · have hf := it_f c1 hf
    refine G_aload_n h dX1_fits_12 (i := 2) rfl rfl rfl ?_
    refine G_iload h dX1_fits_13 rfl rfl ?_
    refine G_iconst h dX1_fits_15 ki_0 rfl ?_
    obtain ⟨x2, hx2, hf⟩ := bd hf
    refine cl_X1_29_k3 h (ok_X4_cell hE _ h_v2 hx2) dX1_fits_16 h_v2 (as := [.int v4, .int (0 : Int32)]) rfl rfl ⟨rfl, rfl, Nat.le_of_ble_eq_true rfl, Nat.le_of_ble_eq_true rfl⟩ rfl (Nat.le_of_ble_eq_true rfl) ?_
    refine G_iload_n h dX1_fits_19 (i := 3) rfl rfl rfl ?_
    have hJ : G X E (0, 0) 28 [some (.ref v0), some (.int v1), some (.ref v2), some (.int v3), some (.int v4), none] [.int (if x2 = v3 then (1 : Int32) else (0 : Int32))] M := by
      refine G_nmi (fun x4 hx4 => ?_)
      have hf := nm_eq hx4 hf
      refine G_istore h dX1_fits_28  (by decide) (L' := [some (.ref v0), some (.int v1), some (.ref v2), some (.int v3), some (.int v4), some (.int x4)]) rfl rfl ?_
      refine G_iload h dX1_fits_30 rfl rfl ?_
      refine G_if_eq h dX1_fits_32 (tgt := 66) (by decide) rfl (fun c5 => ?_) (fun c5 => ?_)
      · have hf := it_t c5 hf
        refine G_iinc2 h dX1_fits_66 rfl ki_1 (by decide) (L' := [some (.ref v0), some (.int v1), some (.ref v2), some (.int v3), some (.int (v4 + 1)), some (.int x4)]) rfl rfl ?_
        refine G_goto h dX1_fits_69 (tgt := 3) (by decide) ?_
        refine G_mskL [true, true, true, true, true, false] (L' := [some (.ref v0), some (.int v1), some (.ref v2), some (.int v3), some (.int (v4 + 1)), none]) rfl ?_
        exact hk3 _ _ _ _ _ h_v0 h_v2 hf
      · have hf := it_f c5 hf
        refine G_aload_n h dX1_fits_35 (i := 0) rfl rfl rfl ?_
        refine G_iload_n h dX1_fits_36 (i := 1) rfl rfl rfl ?_
        refine G_aload_n h dX1_fits_37 (i := 2) rfl rfl rfl ?_
        refine G_iload h dX1_fits_38 rfl rfl ?_
        refine G_iconst h dX1_fits_40 ki_1 rfl ?_
        obtain ⟨x6, hx6, hf⟩ := bd hf
        refine cl_X1_29_k3 h (ok_X4_cell hE _ h_v2 hx6) dX1_fits_41 h_v2 (as := [.int v4, .int (1 : Int32)]) rfl rfl ⟨rfl, rfl, Nat.le_of_ble_eq_true rfl, Nat.le_of_ble_eq_true rfl⟩ rfl (Nat.le_of_ble_eq_true rfl) ?_
        refine G_aload_n h dX1_fits_44 (i := 2) rfl rfl rfl ?_
        refine G_iload h dX1_fits_45 rfl rfl ?_
        refine G_iconst h dX1_fits_47 ki_2 rfl ?_
        obtain ⟨x7, hx7, hf⟩ := bd hf
        refine cl_X1_29_k3 h (ok_X4_cell hE _ h_v2 hx7) dX1_fits_48 h_v2 (as := [.int v4, .int (2 : Int32)]) rfl rfl ⟨rfl, rfl, Nat.le_of_ble_eq_true rfl, Nat.le_of_ble_eq_true rfl⟩ rfl (Nat.le_of_ble_eq_true rfl) ?_
        refine cl_X1_33_k5 h (ok_X6_answer hE _ h_v0 (r := f_X6_answer E M v0 v1 x6 x7) rfl) dX1_fits_51 h_v0 (as := [.int v1, .int x6, .int x7]) rfl rfl ⟨rfl, rfl, Nat.le_of_ble_eq_true rfl, Nat.le_of_ble_eq_true rfl⟩ rfl (Nat.le_of_ble_eq_true rfl) ?_
        refine G_aload_n h dX1_fits_54 (i := 2) rfl rfl rfl ?_
        refine G_iload h dX1_fits_55 rfl rfl ?_
        refine G_iconst h dX1_fits_57 ki_3 rfl ?_
        obtain ⟨x8, hx8, hf⟩ := bd hf
        refine cl_X1_29_k3 h (ok_X4_cell hE _ h_v2 hx8) dX1_fits_58 h_v2 (as := [.int v4, .int (3 : Int32)]) rfl rfl ⟨rfl, rfl, Nat.le_of_ble_eq_true rfl, Nat.le_of_ble_eq_true rfl⟩ rfl (Nat.le_of_ble_eq_true rfl) ?_
        refine G_icmp_eq h dX1_fits_61 (tgt := 66) (by decide) rfl (fun c9 => ?_) (fun c9 => ?_)
        · have hf := it_t c9 hf
          refine G_iinc2 h dX1_fits_66 rfl ki_1 (by decide) (L' := [some (.ref v0), some (.int v1), some (.ref v2), some (.int v3), some (.int (v4 + 1)), some (.int x4)]) rfl rfl ?_
          refine G_goto h dX1_fits_69 (tgt := 3) (by decide) ?_
          refine G_mskL [true, true, true, true, true, false] (L' := [some (.ref v0), some (.int v1), some (.ref v2), some (.int v3), some (.int (v4 + 1)), none]) rfl ?_
          exact hk3 _ _ _ _ _ h_v0 h_v2 hf
        · have hf := it_f c9 hf
          refine G_iconst h dX1_fits_64 ki_0 rfl ?_
          exact roZ hR dX1_fits_65 (Or.inl rfl) hf
    refine G_icmp_ne h dX1_fits_20 (tgt := 27) (by decide) rfl (fun c3 => ?_) (fun c3 => ?_)
    · refine G_iconst h dX1_fits_27 ki_0 rfl ?_
      exact G_ifn c3 hJ
    · refine G_iconst h dX1_fits_23 ki_1 rfl ?_
      refine G_goto h dX1_fits_24 (tgt := 28) (by decide) ?_
      exact G_ifp c3 hJ
def f_X1_fits_k5_L3 (E : Env1) (M : Mem) : Nat → Nat → Int32 → Nat → Int32 → Int32 → (Option (Int32))
  | 0 => fun _ _ _ _ _ => none
  | n + 1 => b_X1_fits_k5_L3 E M (f_X1_fits_k5_L3 E M n)
theorem o_X1_fits_k5_L3 {X : Ctx} {l0 : Launch} {E : Env1} (h : Cx X l0 E RX1 cX1_fits (some .boolean) 6 rm_X1_fits_k5) (hE : WF E) {M : Mem} {r : Int32} (hR : RetZ X E cX1_fits r M) : ∀ (n : Nat) (v0 : Nat) (v1 : Int32) (v2 : Nat) (v3 : Int32) (v4 : Int32), isK E v0 5 → isK E v2 3 → f_X1_fits_k5_L3 E M n v0 v1 v2 v3 v4 = some r → G X E (0, 0) 3 [some (.ref v0), some (.int v1), some (.ref v2), some (.int v3), some (.int v4), none] [] M := by
  intro n
  induction n with
  | zero =>
    intro _ _ _ _ _ a0 a1 hf
    have h0 : (none : Option (Int32)) = some r := hf
    cases h0
  | succ n ih =>
    intro _ _ _ _ _ a0 a1 hf
    exact ob_X1_fits_k5_L3 h hE hR  ih a0 a1 hf
def f_X1_fits_k5 (E : Env1) (M : Mem) (v0 : Nat) (v1 : Int32) (v2 : Nat) (v3 : Int32) : Option (Int32) :=
  f_X1_fits_k5_L3 E M FU v0 v1 v2 v3 (0 : Int32)
set_option maxRecDepth 100000 in
set_option maxHeartbeats 4000000 in
theorem ok_X1_fits_k5 {E : Env1} (hE : WF E) (l0 : Launch) {M : Mem} {v0 : Nat} {v1 : Int32} {v2 : Nat} {v3 : Int32} {r : Int32} (h0 : isK E v0 5) (h2 : isK E v2 3) (hf : f_X1_fits_k5 E M v0 v1 v2 v3 = some r) : Met l0 yX1_fits (wsA yX1_fits cX1_fits 6 (some .boolean)) rm_X1_fits_k5 (CP E M [.ref v0, .int v1, .ref v2, .int v3]) (CQz E r M) 0 0 (eA E) := by
  unfold f_X1_fits_k5 at hf
  refine mtZ l0 (by decide +kernel) (Nat.le_of_ble_eq_true rfl) (L0 := [some (.ref v0), some (.int v1), some (.ref v2), some (.int v3), none, none]) rfl (fun X h hR => ?_)
  refine G_iconst h dX1_fits_0 ki_0 rfl ?_
  refine G_istore h dX1_fits_1  (by decide) (L' := [some (.ref v0), some (.int v1), some (.ref v2), some (.int v3), some (.int (0 : Int32)), none]) rfl rfl ?_
  exact o_X1_fits_k5_L3 h hE hR  FU _ _ _ _ _ h0 h2 hf
def rm_X1_fitting_k5 : Room := { frames := 3, cells := 0, slots := 0, locals := 72 }
def b_X1_fitting_k5_L5 (E : Env1) (M : Mem) (k5 : Nat → Nat → Int32 → Int32 → Int32 → (Option (Int32))) (v0 : Nat) (v1 : Nat) (v2 : Int32) (v3 : Int32) (v4 : Int32) : Option (Int32) :=
  if (6 : Int32) ≤ v4 then (some v3)
  else (
    (f_X1_fits_k5 E M v0 v4 v1 v2).bind fun x3 =>
    if x3 = 0 then (k5 v0 v1 v2 v3 (v4 + 1))
    else (
      nm (v3 ||| ((1 : Int32) <<< (v4 &&& 31))) fun x5 =>
      k5 v0 v1 v2 x5 (v4 + 1)))
set_option maxRecDepth 100000 in
set_option maxHeartbeats 4000000 in
theorem ob_X1_fitting_k5_L5 {X : Ctx} {l0 : Launch} {E : Env1} (h : Cx X l0 E RX1 cX1_fitting (some .int) 5 rm_X1_fitting_k5) (hE : WF E) {M : Mem} {r : Int32} (hR : RetI X E cX1_fitting r M) {k5 : Nat → Nat → Int32 → Int32 → Int32 → (Option (Int32))} (hk5 : ∀ (v0 : Nat) (v1 : Nat) (v2 : Int32) (v3 : Int32) (v4 : Int32), isK E v0 5 → isK E v1 3 → k5 v0 v1 v2 v3 v4 = some r → G X E (0, 0) 5 [some (.ref v0), some (.ref v1), some (.int v2), some (.int v3), some (.int v4)] [] M) {v0 : Nat} {v1 : Nat} {v2 : Int32} {v3 : Int32} {v4 : Int32} (h_v0 : isK E v0 5) (h_v1 : isK E v1 3) (hf : b_X1_fitting_k5_L5 E M k5 v0 v1 v2 v3 v4 = some r) : G X E (0, 0) 5 [some (.ref v0), some (.ref v1), some (.int v2), some (.int v3), some (.int v4)] [] M := by
  unfold b_X1_fitting_k5_L5 at hf
  refine G_iload h dX1_fitting_5 rfl rfl ?_
  refine G_bipush h dX1_fitting_7 kb_6 rfl ?_
  refine G_icmp_ge h dX1_fitting_9 (tgt := 36) (by decide) rfl (fun c1 => ?_) (fun c1 => ?_)
  · have hf := it_t c1 hf
    refine G_iload_n h dX1_fitting_36 (i := 3) rfl rfl rfl ?_
    exact roI hR dX1_fitting_37 hf
  · have hf := it_f c1 hf
    refine G_aload_n h dX1_fitting_12 (i := 0) rfl rfl rfl ?_
    refine G_iload h dX1_fitting_13 rfl rfl ?_
    refine G_aload_n h dX1_fitting_15 (i := 1) rfl rfl rfl ?_
    refine G_iload_n h dX1_fitting_16 (i := 2) rfl rfl rfl ?_
    obtain ⟨x3, hx3, hf⟩ := bd hf
    refine cl_X1_9_k5 h (ok_X1_fits_k5 hE _ h_v0 h_v1 hx3) dX1_fitting_17 h_v0 (as := [.int v4, .ref v1, .int v2]) rfl rfl ⟨rfl, rfl, Nat.le_of_ble_eq_true rfl, Nat.le_of_ble_eq_true rfl⟩ rfl (Nat.le_of_ble_eq_true rfl) (fun z2 => ?_)
    refine G_if_eq h dX1_fitting_20 (tgt := 30) (by decide) rfl (fun c4 => ?_) (fun c4 => ?_)
    · have hf := it_t c4 hf
      refine G_iinc2 h dX1_fitting_30 rfl ki_1 (by decide) (L' := [some (.ref v0), some (.ref v1), some (.int v2), some (.int v3), some (.int (v4 + 1))]) rfl rfl ?_
      refine G_goto h dX1_fitting_33 (tgt := 5) (by decide) ?_
      exact hk5 _ _ _ _ _ h_v0 h_v1 hf
    · have hf := it_f c4 hf
      refine G_iload_n h dX1_fitting_23 (i := 3) rfl rfl rfl ?_
      refine G_iconst h dX1_fitting_24 ki_1 rfl ?_
      refine G_iload h dX1_fitting_25 rfl rfl ?_
      refine G_ishl h dX1_fitting_27 rfl ?_
      refine G_ior h dX1_fitting_28 rfl ?_
      refine G_nmi (fun x5 hx5 => ?_)
      have hf := nm_eq hx5 hf
      refine G_istore_n h dX1_fitting_29 (i := 3) rfl (by decide) (L' := [some (.ref v0), some (.ref v1), some (.int v2), some (.int x5), some (.int v4)]) rfl rfl ?_
      refine G_iinc2 h dX1_fitting_30 rfl ki_1 (by decide) (L' := [some (.ref v0), some (.ref v1), some (.int v2), some (.int x5), some (.int (v4 + 1))]) rfl rfl ?_
      refine G_goto h dX1_fitting_33 (tgt := 5) (by decide) ?_
      exact hk5 _ _ _ _ _ h_v0 h_v1 hf
def f_X1_fitting_k5_L5 (E : Env1) (M : Mem) : Nat → Nat → Nat → Int32 → Int32 → Int32 → (Option (Int32))
  | 0 => fun _ _ _ _ _ => none
  | n + 1 => b_X1_fitting_k5_L5 E M (f_X1_fitting_k5_L5 E M n)
theorem o_X1_fitting_k5_L5 {X : Ctx} {l0 : Launch} {E : Env1} (h : Cx X l0 E RX1 cX1_fitting (some .int) 5 rm_X1_fitting_k5) (hE : WF E) {M : Mem} {r : Int32} (hR : RetI X E cX1_fitting r M) : ∀ (n : Nat) (v0 : Nat) (v1 : Nat) (v2 : Int32) (v3 : Int32) (v4 : Int32), isK E v0 5 → isK E v1 3 → f_X1_fitting_k5_L5 E M n v0 v1 v2 v3 v4 = some r → G X E (0, 0) 5 [some (.ref v0), some (.ref v1), some (.int v2), some (.int v3), some (.int v4)] [] M := by
  intro n
  induction n with
  | zero =>
    intro _ _ _ _ _ a0 a1 hf
    have h0 : (none : Option (Int32)) = some r := hf
    cases h0
  | succ n ih =>
    intro _ _ _ _ _ a0 a1 hf
    exact ob_X1_fitting_k5_L5 h hE hR  ih a0 a1 hf
def f_X1_fitting_k5 (E : Env1) (M : Mem) (v0 : Nat) (v1 : Nat) (v2 : Int32) : Option (Int32) :=
  f_X1_fitting_k5_L5 E M FU v0 v1 v2 (0 : Int32) (0 : Int32)
set_option maxRecDepth 100000 in
set_option maxHeartbeats 4000000 in
theorem ok_X1_fitting_k5 {E : Env1} (hE : WF E) (l0 : Launch) {M : Mem} {v0 : Nat} {v1 : Nat} {v2 : Int32} {r : Int32} (h0 : isK E v0 5) (h1 : isK E v1 3) (hf : f_X1_fitting_k5 E M v0 v1 v2 = some r) : Met l0 yX1_fitting (wsA yX1_fitting cX1_fitting 5 (some .int)) rm_X1_fitting_k5 (CP E M [.ref v0, .ref v1, .int v2]) (CQi E r M) 0 0 (eA E) := by
  unfold f_X1_fitting_k5 at hf
  refine mtI l0 (by decide +kernel) (Nat.le_of_ble_eq_true rfl) (L0 := [some (.ref v0), some (.ref v1), some (.int v2), none, none]) rfl (fun X h hR => ?_)
  refine G_iconst h dX1_fitting_0 ki_0 rfl ?_
  refine G_istore_n h dX1_fitting_1 (i := 3) rfl (by decide) (L' := [some (.ref v0), some (.ref v1), some (.int v2), some (.int (0 : Int32)), none]) rfl rfl ?_
  refine G_iconst h dX1_fitting_2 ki_0 rfl ?_
  refine G_istore h dX1_fitting_3  (by decide) (L' := [some (.ref v0), some (.ref v1), some (.int v2), some (.int (0 : Int32)), some (.int (0 : Int32))]) rfl rfl ?_
  exact o_X1_fitting_k5_L5 h hE hR  FU _ _ _ _ _ h0 h1 hf
def rm_X1_nextQuestion_k5 : Room := { frames := 5, cells := 0, slots := 0, locals := 124 }
def f_X1_nextQuestion_k5 (E : Env1) (M : Mem) (v0 : Nat) (v1 : Nat) (v2 : Int32) : Option (Int32) :=
  (f_X1_fitting_k5 E M v0 v1 v2).bind fun x1 =>
  if x1 = 0 then (some (-1 : Int32))
  else (
    (f_X6_bestQuestion E M v0 x1).bind fun x3 =>
    some x3)
set_option maxRecDepth 100000 in
set_option maxHeartbeats 4000000 in
theorem ok_X1_nextQuestion_k5 {E : Env1} (hE : WF E) (l0 : Launch) {M : Mem} {v0 : Nat} {v1 : Nat} {v2 : Int32} {r : Int32} (h0 : isK E v0 5) (h1 : isK E v1 3) (hf : f_X1_nextQuestion_k5 E M v0 v1 v2 = some r) : Met l0 yX1_nextQuestion (wsA yX1_nextQuestion cX1_nextQuestion 4 (some .int)) rm_X1_nextQuestion_k5 (CP E M [.ref v0, .ref v1, .int v2]) (CQi E r M) 0 0 (eA E) := by
  unfold f_X1_nextQuestion_k5 at hf
  refine mtI l0 (by decide +kernel) (Nat.le_of_ble_eq_true rfl) (L0 := [some (.ref v0), some (.ref v1), some (.int v2), none]) rfl (fun X h hR => ?_)
  refine G_aload_n h dX1_nextQuestion_0 (i := 0) rfl rfl rfl ?_
  refine G_aload_n h dX1_nextQuestion_1 (i := 1) rfl rfl rfl ?_
  refine G_iload_n h dX1_nextQuestion_2 (i := 2) rfl rfl rfl ?_
  obtain ⟨x1, hx1, hf⟩ := bd hf
  refine cl_X1_15_k5 h (ok_X1_fitting_k5 hE _ h0 h1 hx1) dX1_nextQuestion_3 h0 (as := [.ref v1, .int v2]) rfl rfl ⟨rfl, rfl, Nat.le_of_ble_eq_true rfl, Nat.le_of_ble_eq_true rfl⟩ rfl (Nat.le_of_ble_eq_true rfl) ?_
  refine G_istore_n h dX1_nextQuestion_6 (i := 3) rfl (by decide) (L' := [some (.ref v0), some (.ref v1), some (.int v2), some (.int x1)]) rfl rfl ?_
  refine G_iload_n h dX1_nextQuestion_7 (i := 3) rfl rfl rfl ?_
  refine G_if_ne h dX1_nextQuestion_8 (tgt := 15) (by decide) rfl (fun c2 => ?_) (fun c2 => ?_)
  · have hf := it_f c2 hf
    refine G_aload_n h dX1_nextQuestion_15 (i := 0) rfl rfl rfl ?_
    refine G_iload_n h dX1_nextQuestion_16 (i := 3) rfl rfl rfl ?_
    obtain ⟨x3, hx3, hf⟩ := bd hf
    refine cl_X1_19_k5 h (ok_X6_bestQuestion hE _ h0 hx3) dX1_nextQuestion_17 h0 (as := [.int x1]) rfl rfl ⟨rfl, rfl, Nat.le_of_ble_eq_true rfl, Nat.le_of_ble_eq_true rfl⟩ rfl (Nat.le_of_ble_eq_true rfl) ?_
    exact roI hR dX1_nextQuestion_20 hf
  · have hf := it_t c2 hf
    refine G_iconst h dX1_nextQuestion_11 ki_m1 rfl ?_
    refine G_goto h dX1_nextQuestion_12 (tgt := 20) (by decide) ?_
    exact roI hR dX1_nextQuestion_20 hf
end
