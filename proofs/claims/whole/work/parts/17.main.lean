section
def rm_X8_refuse : Room := { frames := 0, cells := 0, slots := 0, locals := 0 }
def f_X8_refuse (E : Env1) (M : Mem) (v0 : Nat) (v1 : Int32) : Int32 × Mem :=
  if v1 = (-2 : Int32) then (v1, wi M v0 8 ((mi M v0 8) + (1 : Int32)))
  else (
    if v1 = (-3 : Int32) then (v1, wi M v0 9 ((mi M v0 9) + (1 : Int32)))
    else (v1, wi M v0 10 ((mi M v0 10) + (1 : Int32))))
set_option maxRecDepth 100000 in
set_option maxHeartbeats 4000000 in
theorem ok_X8_refuse {E : Env1} (hE : WF E) (l0 : Launch) {M : Mem} {M' : Mem} {v0 : Nat} {v1 : Int32} {r : Int32} (h0 : isK E v0 7) (hf : f_X8_refuse E M v0 v1 = (r, M')) : Met l0 yX8_refuse (wsA yX8_refuse cX8_refuse 2 (some .int)) rm_X8_refuse (CP E M [.ref v0, .int v1]) (CQi E r M') 0 0 (eA E) := by
  unfold f_X8_refuse at hf
  refine mtI l0 (by decide +kernel) (Nat.le_of_ble_eq_true rfl) (L0 := [some (.ref v0), some (.int v1)]) rfl (fun X h hR => ?_)
  refine G_iload_n h dX8_refuse_0 (i := 1) rfl rfl rfl ?_
  refine G_bipush h dX8_refuse_1 kb_m2 rfl ?_
  refine G_icmp_ne h dX8_refuse_3 (tgt := 19) (by decide) rfl (fun c1 => ?_) (fun c1 => ?_)
  · have hf := it_f c1 hf
    refine G_iload_n h dX8_refuse_19 (i := 1) rfl rfl rfl ?_
    refine G_bipush h dX8_refuse_20 kb_m3 rfl ?_
    refine G_icmp_ne h dX8_refuse_22 (tgt := 38) (by decide) rfl (fun c2 => ?_) (fun c2 => ?_)
    · have hf := it_f c2 hf
      refine G_aload_n h dX8_refuse_38 (i := 0) rfl rfl rfl ?_
      refine G_dup h dX8_refuse_39 rfl rfl ?_
      refine gf_X8_55 h dX8_refuse_40 h0 rfl ?_
      refine G_iconst h dX8_refuse_43 ki_1 rfl ?_
      refine G_iadd h dX8_refuse_44 rfl ?_
      refine pf_X8_55 h dX8_refuse_45 h0 rfl ?_
      refine G_iload_n h dX8_refuse_48 (i := 1) rfl rfl rfl ?_
      exact twI hR dX8_refuse_49 hf
    · have hf := it_t c2 hf
      refine G_aload_n h dX8_refuse_25 (i := 0) rfl rfl rfl ?_
      refine G_dup h dX8_refuse_26 rfl rfl ?_
      refine gf_X8_52 h dX8_refuse_27 h0 rfl ?_
      refine G_iconst h dX8_refuse_30 ki_1 rfl ?_
      refine G_iadd h dX8_refuse_31 rfl ?_
      refine pf_X8_52 h dX8_refuse_32 h0 rfl ?_
      refine G_goto h dX8_refuse_35 (tgt := 48) (by decide) ?_
      refine G_iload_n h dX8_refuse_48 (i := 1) rfl rfl rfl ?_
      exact twI hR dX8_refuse_49 hf
  · have hf := it_t c1 hf
    refine G_aload_n h dX8_refuse_6 (i := 0) rfl rfl rfl ?_
    refine G_dup h dX8_refuse_7 rfl rfl ?_
    refine gf_X8_48 h dX8_refuse_8 h0 rfl ?_
    refine G_iconst h dX8_refuse_11 ki_1 rfl ?_
    refine G_iadd h dX8_refuse_12 rfl ?_
    refine pf_X8_48 h dX8_refuse_13 h0 rfl ?_
    refine G_goto h dX8_refuse_16 (tgt := 48) (by decide) ?_
    refine G_iload_n h dX8_refuse_48 (i := 1) rfl rfl rfl ?_
    exact twI hR dX8_refuse_49 hf
def rm_X8_about : Room := { frames := 2, cells := 0, slots := 0, locals := 45 }
def f_X8_about (E : Env1) (M : Mem) (v0 : Nat) (v1 : Int32) (v2 : Int32) : Option (Int32 × Mem) :=
  if (f_X8_isStep E M v1) = 0 then (
    nm (f_X8_refuse E M v0 (-2 : Int32)) fun x9 =>
    some (x9.1, x9.2))
  else (
    if v2 = 0 then (gd v1 8 (some (mi M (rr E (rr E (rr E v0 0) 3) 0) (ix v1), M)))
    else if v2 = 1 then (
      (f_X5_knowers E M (rr E (rr E v0 0) 3) v1).bind fun x6 =>
      some (x6, M))
    else if v2 = 2 then (some (((mi M (rr E (rr E v0 0) 3) 3) >>> (v1 &&& 31)) &&& (1 : Int32), M))
    else (
      nm (f_X8_refuse E M v0 (-2 : Int32)) fun x8 =>
      some (x8.1, x8.2)))
set_option maxRecDepth 100000 in
set_option maxHeartbeats 4000000 in
theorem ok_X8_about {E : Env1} (hE : WF E) (l0 : Launch) {M : Mem} {M' : Mem} {v0 : Nat} {v1 : Int32} {v2 : Int32} {r : Int32} (h0 : isK E v0 7) (hf : f_X8_about E M v0 v1 v2 = some (r, M')) : Met l0 yX8_about (wsA yX8_about cX8_about 3 (some .int)) rm_X8_about (CP E M [.ref v0, .int v1, .int v2]) (CQi E r M') 0 0 (eA E) := by
  unfold f_X8_about at hf
  refine mtI l0 (by decide +kernel) (Nat.le_of_ble_eq_true rfl) (L0 := [some (.ref v0), some (.int v1), some (.int v2)]) rfl (fun X h hR => ?_)
  refine G_iload_n h dX8_about_0 (i := 1) rfl rfl rfl ?_
  refine cl_X8_95 h (ok_X8_isStep hE _  (r := f_X8_isStep E M v1) rfl) dX8_about_1 (as := [.int v1]) rfl rfl ⟨rfl, rfl, Nat.le_of_ble_eq_true rfl, Nat.le_of_ble_eq_true rfl⟩ rfl (Nat.le_of_ble_eq_true rfl) (fun z1 => ?_)
  refine G_if_ne h dX8_about_4 (tgt := 14) (by decide) rfl (fun c2 => ?_) (fun c2 => ?_)
  · have hf := it_f c2 hf
    refine G_iload_n h dX8_about_14 (i := 2) rfl rfl rfl ?_
    by_cases c3 : v2 = 0
    · have hf := it_t c3 hf
      refine G_tsIn h dX8_about_15 c3 (v := 0) (j := 0) (by decide) (by decide) rfl (tgt := 40) (by decide) ?_
      refine G_aload_n h dX8_about_40 (i := 0) rfl rfl rfl ?_
      refine gf_X8_10 h hE dX8_about_41 h0 rfl ?_
      refine gf_X8_98 h hE dX8_about_44 ((w_7_0 hE h0).2) rfl ?_
      refine gf_X8_166 h hE dX8_about_47 ((w_0_3 hE ((w_7_0 hE h0).2)).2) rfl ?_
      refine G_iload_n h dX8_about_50 (i := 1) rfl rfl rfl ?_
      obtain ⟨g4, hf⟩ := gd_some hf
      refine G_iald h dX8_about_51 ((w_4_0 hE ((w_0_3 hE ((w_7_0 hE h0).2)).2)).2) g4 (jx := (ix v1)) rfl rfl ?_
      exact pwI hR dX8_about_52 hf
    have hf := it_f c3 hf
    by_cases c5 : v2 = 1
    · have hf := it_t c5 hf
      refine G_tsIn h dX8_about_15 c5 (v := 1) (j := 1) (by decide) (by decide) rfl (tgt := 53) (by decide) ?_
      refine G_aload_n h dX8_about_53 (i := 0) rfl rfl rfl ?_
      refine gf_X8_10 h hE dX8_about_54 h0 rfl ?_
      refine gf_X8_98 h hE dX8_about_57 ((w_7_0 hE h0).2) rfl ?_
      refine G_iload_n h dX8_about_60 (i := 1) rfl rfl rfl ?_
      obtain ⟨x6, hx6, hf⟩ := bd hf
      refine cl_X8_140 h (ok_X5_knowers hE _ ((w_0_3 hE ((w_7_0 hE h0).2)).2) hx6) dX8_about_61 ((w_0_3 hE ((w_7_0 hE h0).2)).2) (as := [.int v1]) rfl rfl ⟨rfl, rfl, Nat.le_of_ble_eq_true rfl, Nat.le_of_ble_eq_true rfl⟩ rfl (Nat.le_of_ble_eq_true rfl) ?_
      exact pwI hR dX8_about_64 hf
    have hf := it_f c5 hf
    by_cases c7 : v2 = 2
    · have hf := it_t c7 hf
      refine G_tsIn h dX8_about_15 c7 (v := 2) (j := 2) (by decide) (by decide) rfl (tgt := 65) (by decide) ?_
      refine G_aload_n h dX8_about_65 (i := 0) rfl rfl rfl ?_
      refine gf_X8_10 h hE dX8_about_66 h0 rfl ?_
      refine gf_X8_98 h hE dX8_about_69 ((w_7_0 hE h0).2) rfl ?_
      refine gf_X8_137 h dX8_about_72 ((w_0_3 hE ((w_7_0 hE h0).2)).2) rfl ?_
      refine G_iload_n h dX8_about_75 (i := 1) rfl rfl rfl ?_
      refine G_ishr h dX8_about_76 rfl ?_
      refine G_iconst h dX8_about_77 ki_1 rfl ?_
      refine G_iand h dX8_about_78 rfl ?_
      exact pwI hR dX8_about_79 hf
    have hf := it_f c7 hf
    have nc3 := ne_lit c3 (n := 0) (by decide)
    have nc5 := ne_lit c5 (n := 1) (by decide)
    have nc7 := ne_lit c7 (n := 2) (by decide)
    refine G_tsOut h dX8_about_15 (by omega) (tgt := 80) (by decide) ?_
    refine G_aload_n h dX8_about_80 (i := 0) rfl rfl rfl ?_
    refine G_bipush h dX8_about_81 kb_m2 rfl ?_
    obtain ⟨x8, hx8⟩ : ∃ x, x = f_X8_refuse E M v0 (-2 : Int32) := ⟨_, rfl⟩
    have hf := nm_eq hx8 hf
    refine cl_X8_68 h (ok_X8_refuse hE _ h0 hx8.symm) dX8_about_83 h0 (as := [.int (-2 : Int32)]) rfl rfl ⟨rfl, rfl, Nat.le_of_ble_eq_true rfl, Nat.le_of_ble_eq_true rfl⟩ rfl (Nat.le_of_ble_eq_true rfl) ?_
    exact pwI hR dX8_about_86 hf
  · have hf := it_t c2 hf
    refine G_aload_n h dX8_about_7 (i := 0) rfl rfl rfl ?_
    refine G_bipush h dX8_about_8 kb_m2 rfl ?_
    obtain ⟨x9, hx9⟩ : ∃ x, x = f_X8_refuse E M v0 (-2 : Int32) := ⟨_, rfl⟩
    have hf := nm_eq hx9 hf
    refine cl_X8_68 h (ok_X8_refuse hE _ h0 hx9.symm) dX8_about_10 h0 (as := [.int (-2 : Int32)]) rfl rfl ⟨rfl, rfl, Nat.le_of_ble_eq_true rfl, Nat.le_of_ble_eq_true rfl⟩ rfl (Nat.le_of_ble_eq_true rfl) ?_
    exact pwI hR dX8_about_13 hf
def rm_X8_add : Room := { frames := 2, cells := 0, slots := 0, locals := 47 }
def f_X8_add (E : Env1) (M : Mem) (v0 : Nat) (v1 : Nat) (v2 : Int32) (v3 : Int32) (v4 : Int32) (v5 : Int32) : Option (Int32 × Mem) :=
  if (mi M v1 0) < (6 : Int32) then (
    (f_X4_append E M v1 v2 v3 v4 v5).bind fun x2 =>
    some (mi x2 v1 0, x2))
  else (
    nm (f_X8_refuse E M v0 (-4 : Int32)) fun x3 =>
    some (x3.1, x3.2))
set_option maxRecDepth 100000 in
set_option maxHeartbeats 4000000 in
theorem ok_X8_add {E : Env1} (hE : WF E) (l0 : Launch) {M : Mem} {M' : Mem} {v0 : Nat} {v1 : Nat} {v2 : Int32} {v3 : Int32} {v4 : Int32} {v5 : Int32} {r : Int32} (h0 : isK E v0 7) (h1 : isK E v1 3) (hf : f_X8_add E M v0 v1 v2 v3 v4 v5 = some (r, M')) : Met l0 yX8_add (wsA yX8_add cX8_add 6 (some .int)) rm_X8_add (CP E M [.ref v0, .ref v1, .int v2, .int v3, .int v4, .int v5]) (CQi E r M') 0 0 (eA E) := by
  unfold f_X8_add at hf
  refine mtI l0 (by decide +kernel) (Nat.le_of_ble_eq_true rfl) (L0 := [some (.ref v0), some (.ref v1), some (.int v2), some (.int v3), some (.int v4), some (.int v5)]) rfl (fun X h hR => ?_)
  refine G_aload_n h dX8_add_0 (i := 1) rfl rfl rfl ?_
  refine gf_X8_284 h dX8_add_1 h1 rfl ?_
  refine G_bipush h dX8_add_4 kb_6 rfl ?_
  refine G_icmp_lt h dX8_add_6 (tgt := 16) (by decide) rfl (fun c1 => ?_) (fun c1 => ?_)
  · have hf := it_t c1 hf
    refine G_aload_n h dX8_add_16 (i := 1) rfl rfl rfl ?_
    refine G_iload_n h dX8_add_17 (i := 2) rfl rfl rfl ?_
    refine G_iload_n h dX8_add_18 (i := 3) rfl rfl rfl ?_
    refine G_iload h dX8_add_19 rfl rfl ?_
    refine G_iload h dX8_add_21 rfl rfl ?_
    obtain ⟨x2, hx2, hf⟩ := bd hf
    refine cl_X8_285 h (ok_X4_append hE _ h1 hx2) dX8_add_23 h1 (as := [.int v2, .int v3, .int v4, .int v5]) rfl rfl ⟨rfl, rfl, Nat.le_of_ble_eq_true rfl, Nat.le_of_ble_eq_true rfl⟩ rfl (Nat.le_of_ble_eq_true rfl) ?_
    refine G_aload_n h dX8_add_26 (i := 1) rfl rfl rfl ?_
    refine gf_X8_284 h dX8_add_27 h1 rfl ?_
    exact pwI hR dX8_add_30 hf
  · have hf := it_f c1 hf
    refine G_aload_n h dX8_add_9 (i := 0) rfl rfl rfl ?_
    refine G_bipush h dX8_add_10 kb_m4 rfl ?_
    obtain ⟨x3, hx3⟩ : ∃ x, x = f_X8_refuse E M v0 (-4 : Int32) := ⟨_, rfl⟩
    have hf := nm_eq hx3 hf
    refine cl_X8_68 h (ok_X8_refuse hE _ h0 hx3.symm) dX8_add_12 h0 (as := [.int (-4 : Int32)]) rfl rfl ⟨rfl, rfl, Nat.le_of_ble_eq_true rfl, Nat.le_of_ble_eq_true rfl⟩ rfl (Nat.le_of_ble_eq_true rfl) ?_
    exact pwI hR dX8_add_15 hf
def rm_X8_ask : Room := { frames := 5, cells := 0, slots := 0, locals := 125 }
def f_X8_ask (E : Env1) (M : Mem) (v0 : Nat) (v1 : Int32) : Option (Int32 × Mem) :=
  if (f_X0_hasPerson E M (rr E v0 0) v1) = 0 then (
    nm (f_X8_refuse E M v0 (-2 : Int32)) fun x4 =>
    some (x4.1, x4.2))
  else (
    (f_X1_nextQuestion_k1 E M (rr E (rr E v0 0) 10) (rr E (rr E v0 0) 8) v1).bind fun x3 =>
    some (x3, M))
set_option maxRecDepth 100000 in
set_option maxHeartbeats 4000000 in
theorem ok_X8_ask {E : Env1} (hE : WF E) (l0 : Launch) {M : Mem} {M' : Mem} {v0 : Nat} {v1 : Int32} {r : Int32} (h0 : isK E v0 7) (hf : f_X8_ask E M v0 v1 = some (r, M')) : Met l0 yX8_ask (wsA yX8_ask cX8_ask 2 (some .int)) rm_X8_ask (CP E M [.ref v0, .int v1]) (CQi E r M') 0 0 (eA E) := by
  unfold f_X8_ask at hf
  refine mtI l0 (by decide +kernel) (Nat.le_of_ble_eq_true rfl) (L0 := [some (.ref v0), some (.int v1)]) rfl (fun X h hR => ?_)
  refine G_aload_n h dX8_ask_0 (i := 0) rfl rfl rfl ?_
  refine gf_X8_10 h hE dX8_ask_1 h0 rfl ?_
  refine G_iload_n h dX8_ask_4 (i := 1) rfl rfl rfl ?_
  refine cl_X8_91 h (ok_X0_hasPerson hE _ ((w_7_0 hE h0).2) (r := f_X0_hasPerson E M (rr E v0 0) v1) rfl) dX8_ask_5 ((w_7_0 hE h0).2) (as := [.int v1]) rfl rfl ⟨rfl, rfl, Nat.le_of_ble_eq_true rfl, Nat.le_of_ble_eq_true rfl⟩ rfl (Nat.le_of_ble_eq_true rfl) (fun z1 => ?_)
  refine G_if_ne h dX8_ask_8 (tgt := 18) (by decide) rfl (fun c2 => ?_) (fun c2 => ?_)
  · have hf := it_f c2 hf
    refine G_aload_n h dX8_ask_18 (i := 0) rfl rfl rfl ?_
    refine gf_X8_10 h hE dX8_ask_19 h0 rfl ?_
    refine gf_X8_235 h hE dX8_ask_22 ((w_7_0 hE h0).2) rfl ?_
    refine G_aload_n h dX8_ask_25 (i := 0) rfl rfl rfl ?_
    refine gf_X8_10 h hE dX8_ask_26 h0 rfl ?_
    refine gf_X8_214 h hE dX8_ask_29 ((w_7_0 hE h0).2) rfl ?_
    refine G_iload_n h dX8_ask_32 (i := 1) rfl rfl rfl ?_
    obtain ⟨x3, hx3, hf⟩ := bd hf
    refine cl_X8_242_k1 h (ok_X1_nextQuestion_k1 hE _ ((w_0_10 hE ((w_7_0 hE h0).2)).2) ((w_0_8 hE ((w_7_0 hE h0).2)).2) hx3) dX8_ask_33 ((w_0_10 hE ((w_7_0 hE h0).2)).2) (as := [.ref (rr E (rr E v0 0) 8), .int v1]) rfl rfl ⟨rfl, rfl, Nat.le_of_ble_eq_true rfl, Nat.le_of_ble_eq_true rfl⟩ rfl (Nat.le_of_ble_eq_true rfl) ?_
    exact pwI hR dX8_ask_36 hf
  · have hf := it_t c2 hf
    refine G_aload_n h dX8_ask_11 (i := 0) rfl rfl rfl ?_
    refine G_bipush h dX8_ask_12 kb_m2 rfl ?_
    obtain ⟨x4, hx4⟩ : ∃ x, x = f_X8_refuse E M v0 (-2 : Int32) := ⟨_, rfl⟩
    have hf := nm_eq hx4 hf
    refine cl_X8_68 h (ok_X8_refuse hE _ h0 hx4.symm) dX8_ask_14 h0 (as := [.int (-2 : Int32)]) rfl rfl ⟨rfl, rfl, Nat.le_of_ble_eq_true rfl, Nat.le_of_ble_eq_true rfl⟩ rfl (Nat.le_of_ble_eq_true rfl) ?_
    exact pwI hR dX8_ask_17 hf
def rm_X8_asks : Room := { frames := 4, cells := 0, slots := 0, locals := 95 }
def f_X8_asks (E : Env1) (M : Mem) (v0 : Nat) (v1 : Int32) (v2 : Int32) (v3 : Int32) : Option (Int32 × Mem) :=
  if (f_X0_hasPerson E M (rr E v0 0) v1) = 0 then (
    nm (f_X8_refuse E M v0 (-2 : Int32)) fun x3 =>
    some (x3.1, x3.2))
  else (
    if (f_X8_isStep E M v2) = 0 then (
      nm (f_X8_refuse E M v0 (-2 : Int32)) fun x16 =>
      some (x16.1, x16.2))
    else (
      (f_X0_othersWhoKnow E M (rr E v0 0) v1 v2).bind fun x6 =>
      if v3 = 0 then (
        (f_X0_wanted E M (rr E v0 0) v1 v2 (mi M (rr E (rr E v0 0) 3) 4)).bind fun x8 =>
        some (x8, M))
      else if v3 = 1 then (
        (f_X0_wordOf E M (rr E v0 0) x6 (mi M (rr E (rr E v0 0) 3) 4)).bind fun x10 =>
        some (x10, M))
      else if v3 = 2 then (
        (f_X0_couldMeet E M (rr E v0 0) v1 v2 x6 (mi M (rr E (rr E v0 0) 3) 4)).bind fun x13 =>
        some (if x13 = 0 then (0 : Int32) else (1 : Int32), M))
      else (
        nm (f_X8_refuse E M v0 (-2 : Int32)) fun x15 =>
        some (x15.1, x15.2))))
set_option maxRecDepth 100000 in
set_option maxHeartbeats 4000000 in
theorem ok_X8_asks {E : Env1} (hE : WF E) (l0 : Launch) {M : Mem} {M' : Mem} {v0 : Nat} {v1 : Int32} {v2 : Int32} {v3 : Int32} {r : Int32} (h0 : isK E v0 7) (hf : f_X8_asks E M v0 v1 v2 v3 = some (r, M')) : Met l0 yX8_asks (wsA yX8_asks cX8_asks 6 (some .int)) rm_X8_asks (CP E M [.ref v0, .int v1, .int v2, .int v3]) (CQi E r M') 0 0 (eA E) := by
  unfold f_X8_asks at hf
  refine mtI l0 (by decide +kernel) (Nat.le_of_ble_eq_true rfl) (L0 := [some (.ref v0), some (.int v1), some (.int v2), some (.int v3), none, none]) rfl (fun X h hR => ?_)
  refine G_aload_n h dX8_asks_0 (i := 0) rfl rfl rfl ?_
  refine gf_X8_10 h hE dX8_asks_1 h0 rfl ?_
  refine G_iload_n h dX8_asks_4 (i := 1) rfl rfl rfl ?_
  refine cl_X8_91 h (ok_X0_hasPerson hE _ ((w_7_0 hE h0).2) (r := f_X0_hasPerson E M (rr E v0 0) v1) rfl) dX8_asks_5 ((w_7_0 hE h0).2) (as := [.int v1]) rfl rfl ⟨rfl, rfl, Nat.le_of_ble_eq_true rfl, Nat.le_of_ble_eq_true rfl⟩ rfl (Nat.le_of_ble_eq_true rfl) (fun z1 => ?_)
  refine G_if_eq h dX8_asks_8 (tgt := 18) (by decide) rfl (fun c2 => ?_) (fun c2 => ?_)
  · have hf := it_t c2 hf
    refine G_aload_n h dX8_asks_18 (i := 0) rfl rfl rfl ?_
    refine G_bipush h dX8_asks_19 kb_m2 rfl ?_
    obtain ⟨x3, hx3⟩ : ∃ x, x = f_X8_refuse E M v0 (-2 : Int32) := ⟨_, rfl⟩
    have hf := nm_eq hx3 hf
    refine cl_X8_68 h (ok_X8_refuse hE _ h0 hx3.symm) dX8_asks_21 h0 (as := [.int (-2 : Int32)]) rfl rfl ⟨rfl, rfl, Nat.le_of_ble_eq_true rfl, Nat.le_of_ble_eq_true rfl⟩ rfl (Nat.le_of_ble_eq_true rfl) ?_
    exact pwI hR dX8_asks_24 hf
  · have hf := it_f c2 hf
    refine G_iload_n h dX8_asks_11 (i := 2) rfl rfl rfl ?_
    refine cl_X8_95 h (ok_X8_isStep hE _  (r := f_X8_isStep E M v2) rfl) dX8_asks_12 (as := [.int v2]) rfl rfl ⟨rfl, rfl, Nat.le_of_ble_eq_true rfl, Nat.le_of_ble_eq_true rfl⟩ rfl (Nat.le_of_ble_eq_true rfl) (fun z4 => ?_)
    refine G_if_ne h dX8_asks_15 (tgt := 25) (by decide) rfl (fun c5 => ?_) (fun c5 => ?_)
    · have hf := it_f c5 hf
      refine G_aload_n h dX8_asks_25 (i := 0) rfl rfl rfl ?_
      refine gf_X8_10 h hE dX8_asks_26 h0 rfl ?_
      refine gf_X8_98 h hE dX8_asks_29 ((w_7_0 hE h0).2) rfl ?_
      refine gf_X8_108 h dX8_asks_32 ((w_0_3 hE ((w_7_0 hE h0).2)).2) rfl ?_
      refine G_istore h dX8_asks_35  (by decide) (L' := [some (.ref v0), some (.int v1), some (.int v2), some (.int v3), some (.int (mi M (rr E (rr E v0 0) 3) 4)), none]) rfl rfl ?_
      refine G_aload_n h dX8_asks_37 (i := 0) rfl rfl rfl ?_
      refine gf_X8_10 h hE dX8_asks_38 h0 rfl ?_
      refine G_iload_n h dX8_asks_41 (i := 1) rfl rfl rfl ?_
      refine G_iload_n h dX8_asks_42 (i := 2) rfl rfl rfl ?_
      obtain ⟨x6, hx6, hf⟩ := bd hf
      refine cl_X8_169 h (ok_X0_othersWhoKnow hE _ ((w_7_0 hE h0).2) hx6) dX8_asks_43 ((w_7_0 hE h0).2) (as := [.int v1, .int v2]) rfl rfl ⟨rfl, rfl, Nat.le_of_ble_eq_true rfl, Nat.le_of_ble_eq_true rfl⟩ rfl (Nat.le_of_ble_eq_true rfl) ?_
      refine G_istore h dX8_asks_46  (by decide) (L' := [some (.ref v0), some (.int v1), some (.int v2), some (.int v3), some (.int (mi M (rr E (rr E v0 0) 3) 4)), some (.int x6)]) rfl rfl ?_
      refine G_iload_n h dX8_asks_48 (i := 3) rfl rfl rfl ?_
      by_cases c7 : v3 = 0
      · have hf := it_t c7 hf
        refine G_tsIn h dX8_asks_49 c7 (v := 0) (j := 0) (by decide) (by decide) rfl (tgt := 76) (by decide) ?_
        refine G_aload_n h dX8_asks_76 (i := 0) rfl rfl rfl ?_
        refine gf_X8_10 h hE dX8_asks_77 h0 rfl ?_
        refine G_iload_n h dX8_asks_80 (i := 1) rfl rfl rfl ?_
        refine G_iload_n h dX8_asks_81 (i := 2) rfl rfl rfl ?_
        refine G_iload h dX8_asks_82 rfl rfl ?_
        obtain ⟨x8, hx8, hf⟩ := bd hf
        refine cl_X8_173 h (ok_X0_wanted hE _ ((w_7_0 hE h0).2) hx8) dX8_asks_84 ((w_7_0 hE h0).2) (as := [.int v1, .int v2, .int (mi M (rr E (rr E v0 0) 3) 4)]) rfl rfl ⟨rfl, rfl, Nat.le_of_ble_eq_true rfl, Nat.le_of_ble_eq_true rfl⟩ rfl (Nat.le_of_ble_eq_true rfl) ?_
        exact pwI hR dX8_asks_87 hf
      have hf := it_f c7 hf
      by_cases c9 : v3 = 1
      · have hf := it_t c9 hf
        refine G_tsIn h dX8_asks_49 c9 (v := 1) (j := 1) (by decide) (by decide) rfl (tgt := 88) (by decide) ?_
        refine G_aload_n h dX8_asks_88 (i := 0) rfl rfl rfl ?_
        refine gf_X8_10 h hE dX8_asks_89 h0 rfl ?_
        refine G_iload h dX8_asks_92 rfl rfl ?_
        refine G_iload h dX8_asks_94 rfl rfl ?_
        obtain ⟨x10, hx10, hf⟩ := bd hf
        refine cl_X8_177 h (ok_X0_wordOf hE _ ((w_7_0 hE h0).2) hx10) dX8_asks_96 ((w_7_0 hE h0).2) (as := [.int x6, .int (mi M (rr E (rr E v0 0) 3) 4)]) rfl rfl ⟨rfl, rfl, Nat.le_of_ble_eq_true rfl, Nat.le_of_ble_eq_true rfl⟩ rfl (Nat.le_of_ble_eq_true rfl) ?_
        exact pwI hR dX8_asks_99 hf
      have hf := it_f c9 hf
      by_cases c11 : v3 = 2
      · have hf := it_t c11 hf
        refine G_tsIn h dX8_asks_49 c11 (v := 2) (j := 2) (by decide) (by decide) rfl (tgt := 100) (by decide) ?_
        refine G_aload_n h dX8_asks_100 (i := 0) rfl rfl rfl ?_
        refine gf_X8_10 h hE dX8_asks_101 h0 rfl ?_
        refine G_iload_n h dX8_asks_104 (i := 1) rfl rfl rfl ?_
        refine G_iload_n h dX8_asks_105 (i := 2) rfl rfl rfl ?_
        refine G_iload h dX8_asks_106 rfl rfl ?_
        refine G_iload h dX8_asks_108 rfl rfl ?_
        obtain ⟨x13, hx13, hf⟩ := bd hf
        refine cl_X8_180 h (ok_X0_couldMeet hE _ ((w_7_0 hE h0).2) hx13) dX8_asks_110 ((w_7_0 hE h0).2) (as := [.int v1, .int v2, .int x6, .int (mi M (rr E (rr E v0 0) 3) 4)]) rfl rfl ⟨rfl, rfl, Nat.le_of_ble_eq_true rfl, Nat.le_of_ble_eq_true rfl⟩ rfl (Nat.le_of_ble_eq_true rfl) (fun z12 => ?_)
        have hJ : G X E (0, 0) 121 [some (.ref v0), some (.int v1), some (.int v2), some (.int v3), some (.int (mi M (rr E (rr E v0 0) 3) 4)), some (.int x6)] [.int (if x13 = 0 then (0 : Int32) else (1 : Int32))] M := by
          exact pwI hR dX8_asks_121 hf
        refine G_if_eq h dX8_asks_113 (tgt := 120) (by decide) rfl (fun c14 => ?_) (fun c14 => ?_)
        · refine G_iconst h dX8_asks_120 ki_0 rfl ?_
          exact G_ifp c14 hJ
        · refine G_iconst h dX8_asks_116 ki_1 rfl ?_
          refine G_goto h dX8_asks_117 (tgt := 121) (by decide) ?_
          exact G_ifn c14 hJ
      have hf := it_f c11 hf
      have nc7 := ne_lit c7 (n := 0) (by decide)
      have nc9 := ne_lit c9 (n := 1) (by decide)
      have nc11 := ne_lit c11 (n := 2) (by decide)
      refine G_tsOut h dX8_asks_49 (by omega) (tgt := 122) (by decide) ?_
      refine G_aload_n h dX8_asks_122 (i := 0) rfl rfl rfl ?_
      refine G_bipush h dX8_asks_123 kb_m2 rfl ?_
      obtain ⟨x15, hx15⟩ : ∃ x, x = f_X8_refuse E M v0 (-2 : Int32) := ⟨_, rfl⟩
      have hf := nm_eq hx15 hf
      refine cl_X8_68 h (ok_X8_refuse hE _ h0 hx15.symm) dX8_asks_125 h0 (as := [.int (-2 : Int32)]) rfl rfl ⟨rfl, rfl, Nat.le_of_ble_eq_true rfl, Nat.le_of_ble_eq_true rfl⟩ rfl (Nat.le_of_ble_eq_true rfl) ?_
      exact pwI hR dX8_asks_128 hf
    · have hf := it_t c5 hf
      refine G_aload_n h dX8_asks_18 (i := 0) rfl rfl rfl ?_
      refine G_bipush h dX8_asks_19 kb_m2 rfl ?_
      obtain ⟨x16, hx16⟩ : ∃ x, x = f_X8_refuse E M v0 (-2 : Int32) := ⟨_, rfl⟩
      have hf := nm_eq hx16 hf
      refine cl_X8_68 h (ok_X8_refuse hE _ h0 hx16.symm) dX8_asks_21 h0 (as := [.int (-2 : Int32)]) rfl rfl ⟨rfl, rfl, Nat.le_of_ble_eq_true rfl, Nat.le_of_ble_eq_true rfl⟩ rfl (Nat.le_of_ble_eq_true rfl) ?_
      exact pwI hR dX8_asks_24 hf
def rm_X8_carpet : Room := { frames := 2, cells := 0, slots := 0, locals := 42 }
def f_X8_carpet (E : Env1) (M : Mem) (v0 : Nat) (v1 : Int32) (v2 : Int32) : Option (Int32 × Mem) :=
  if (f_X8_within E M v1 (0 : Int32) (6 : Int32)) = 0 then (
    nm (f_X8_refuse E M v0 (-2 : Int32)) fun x3 =>
    some (x3.1, x3.2))
  else (
    if (f_X8_within E M v2 (0 : Int32) (1 : Int32)) = 0 then (
      nm (f_X8_refuse E M v0 (-2 : Int32)) fun x11 =>
      some (x11.1, x11.2))
    else (
      nm (((mi M (rr E (rr E v0 0) 3) 3) >>> (v1 &&& 31)) &&& (1 : Int32)) fun x6 =>
      if x6 = v2 then (
        nm (f_X8_refuse E M v0 (-3 : Int32)) fun x10 =>
        some (x10.1, x10.2))
      else (
        (f_X0_remember E M (rr E v0 0)).bind fun x8 =>
        nm (wi x8 (rr E (rr E v0 0) 3) 3 ((mi x8 (rr E (rr E v0 0) 3) 3) ^^^ ((1 : Int32) <<< (v1 &&& 31)))) fun M9 =>
        some (x6, M9))))
set_option maxRecDepth 100000 in
set_option maxHeartbeats 4000000 in
theorem ok_X8_carpet {E : Env1} (hE : WF E) (l0 : Launch) {M : Mem} {M' : Mem} {v0 : Nat} {v1 : Int32} {v2 : Int32} {r : Int32} (h0 : isK E v0 7) (hf : f_X8_carpet E M v0 v1 v2 = some (r, M')) : Met l0 yX8_carpet (wsA yX8_carpet cX8_carpet 4 (some .int)) rm_X8_carpet (CP E M [.ref v0, .int v1, .int v2]) (CQi E r M') 0 0 (eA E) := by
  unfold f_X8_carpet at hf
  refine mtI l0 (by decide +kernel) (Nat.le_of_ble_eq_true rfl) (L0 := [some (.ref v0), some (.int v1), some (.int v2), none]) rfl (fun X h hR => ?_)
  refine G_iload_n h dX8_carpet_0 (i := 1) rfl rfl rfl ?_
  refine G_iconst h dX8_carpet_1 ki_0 rfl ?_
  refine G_bipush h dX8_carpet_2 kb_6 rfl ?_
  refine cl_X8_64 h (ok_X8_within hE _  (r := f_X8_within E M v1 (0 : Int32) (6 : Int32)) rfl) dX8_carpet_4 (as := [.int v1, .int (0 : Int32), .int (6 : Int32)]) rfl rfl ⟨rfl, rfl, Nat.le_of_ble_eq_true rfl, Nat.le_of_ble_eq_true rfl⟩ rfl (Nat.le_of_ble_eq_true rfl) (fun z1 => ?_)
  refine G_if_eq h dX8_carpet_7 (tgt := 19) (by decide) rfl (fun c2 => ?_) (fun c2 => ?_)
  · have hf := it_t c2 hf
    refine G_aload_n h dX8_carpet_19 (i := 0) rfl rfl rfl ?_
    refine G_bipush h dX8_carpet_20 kb_m2 rfl ?_
    obtain ⟨x3, hx3⟩ : ∃ x, x = f_X8_refuse E M v0 (-2 : Int32) := ⟨_, rfl⟩
    have hf := nm_eq hx3 hf
    refine cl_X8_68 h (ok_X8_refuse hE _ h0 hx3.symm) dX8_carpet_22 h0 (as := [.int (-2 : Int32)]) rfl rfl ⟨rfl, rfl, Nat.le_of_ble_eq_true rfl, Nat.le_of_ble_eq_true rfl⟩ rfl (Nat.le_of_ble_eq_true rfl) ?_
    exact pwI hR dX8_carpet_25 hf
  · have hf := it_f c2 hf
    refine G_iload_n h dX8_carpet_10 (i := 2) rfl rfl rfl ?_
    refine G_iconst h dX8_carpet_11 ki_0 rfl ?_
    refine G_iconst h dX8_carpet_12 ki_1 rfl ?_
    refine cl_X8_64 h (ok_X8_within hE _  (r := f_X8_within E M v2 (0 : Int32) (1 : Int32)) rfl) dX8_carpet_13 (as := [.int v2, .int (0 : Int32), .int (1 : Int32)]) rfl rfl ⟨rfl, rfl, Nat.le_of_ble_eq_true rfl, Nat.le_of_ble_eq_true rfl⟩ rfl (Nat.le_of_ble_eq_true rfl) (fun z4 => ?_)
    refine G_if_ne h dX8_carpet_16 (tgt := 26) (by decide) rfl (fun c5 => ?_) (fun c5 => ?_)
    · have hf := it_f c5 hf
      refine G_aload_n h dX8_carpet_26 (i := 0) rfl rfl rfl ?_
      refine gf_X8_10 h hE dX8_carpet_27 h0 rfl ?_
      refine gf_X8_98 h hE dX8_carpet_30 ((w_7_0 hE h0).2) rfl ?_
      refine gf_X8_137 h dX8_carpet_33 ((w_0_3 hE ((w_7_0 hE h0).2)).2) rfl ?_
      refine G_iload_n h dX8_carpet_36 (i := 1) rfl rfl rfl ?_
      refine G_ishr h dX8_carpet_37 rfl ?_
      refine G_iconst h dX8_carpet_38 ki_1 rfl ?_
      refine G_iand h dX8_carpet_39 rfl ?_
      refine G_nmi (fun x6 hx6 => ?_)
      have hf := nm_eq hx6 hf
      refine G_istore_n h dX8_carpet_40 (i := 3) rfl (by decide) (L' := [some (.ref v0), some (.int v1), some (.int v2), some (.int x6)]) rfl rfl ?_
      refine G_iload_n h dX8_carpet_41 (i := 3) rfl rfl rfl ?_
      refine G_iload_n h dX8_carpet_42 (i := 2) rfl rfl rfl ?_
      refine G_icmp_ne h dX8_carpet_43 (tgt := 53) (by decide) rfl (fun c7 => ?_) (fun c7 => ?_)
      · have hf := it_f c7 hf
        refine G_aload_n h dX8_carpet_53 (i := 0) rfl rfl rfl ?_
        refine gf_X8_10 h hE dX8_carpet_54 h0 rfl ?_
        obtain ⟨x8, hx8, hf⟩ := bd hf
        refine cl_X8_111 h (ok_X0_remember hE _ ((w_7_0 hE h0).2) hx8) dX8_carpet_57 ((w_7_0 hE h0).2) (as := []) rfl rfl ⟨rfl, rfl, Nat.le_of_ble_eq_true rfl, Nat.le_of_ble_eq_true rfl⟩ rfl (Nat.le_of_ble_eq_true rfl) ?_
        refine G_aload_n h dX8_carpet_60 (i := 0) rfl rfl rfl ?_
        refine gf_X8_10 h hE dX8_carpet_61 h0 rfl ?_
        refine gf_X8_98 h hE dX8_carpet_64 ((w_7_0 hE h0).2) rfl ?_
        refine G_dup h dX8_carpet_67 rfl rfl ?_
        refine gf_X8_137 h dX8_carpet_68 ((w_0_3 hE ((w_7_0 hE h0).2)).2) rfl ?_
        refine G_iconst h dX8_carpet_71 ki_1 rfl ?_
        refine G_iload_n h dX8_carpet_72 (i := 1) rfl rfl rfl ?_
        refine G_ishl h dX8_carpet_73 rfl ?_
        refine G_ixor h dX8_carpet_74 rfl ?_
        refine pf_X8_137 h dX8_carpet_75 ((w_0_3 hE ((w_7_0 hE h0).2)).2) rfl ?_
        refine G_nmM (fun M9 hM9 => ?_)
        have hf := nm_eq hM9 hf
        refine G_iload_n h dX8_carpet_78 (i := 3) rfl rfl rfl ?_
        exact pwI hR dX8_carpet_79 hf
      · have hf := it_t c7 hf
        refine G_aload_n h dX8_carpet_46 (i := 0) rfl rfl rfl ?_
        refine G_bipush h dX8_carpet_47 kb_m3 rfl ?_
        obtain ⟨x10, hx10⟩ : ∃ x, x = f_X8_refuse E M v0 (-3 : Int32) := ⟨_, rfl⟩
        have hf := nm_eq hx10 hf
        refine cl_X8_68 h (ok_X8_refuse hE _ h0 hx10.symm) dX8_carpet_49 h0 (as := [.int (-3 : Int32)]) rfl rfl ⟨rfl, rfl, Nat.le_of_ble_eq_true rfl, Nat.le_of_ble_eq_true rfl⟩ rfl (Nat.le_of_ble_eq_true rfl) ?_
        exact pwI hR dX8_carpet_52 hf
    · have hf := it_t c5 hf
      refine G_aload_n h dX8_carpet_19 (i := 0) rfl rfl rfl ?_
      refine G_bipush h dX8_carpet_20 kb_m2 rfl ?_
      obtain ⟨x11, hx11⟩ : ∃ x, x = f_X8_refuse E M v0 (-2 : Int32) := ⟨_, rfl⟩
      have hf := nm_eq hx11 hf
      refine cl_X8_68 h (ok_X8_refuse hE _ h0 hx11.symm) dX8_carpet_22 h0 (as := [.int (-2 : Int32)]) rfl rfl ⟨rfl, rfl, Nat.le_of_ble_eq_true rfl, Nat.le_of_ble_eq_true rfl⟩ rfl (Nat.le_of_ble_eq_true rfl) ?_
      exact pwI hR dX8_carpet_25 hf
def rm_X8_clear : Room := { frames := 0, cells := 0, slots := 0, locals := 0 }
def f_X8_clear (E : Env1) (M : Mem) (v0 : Nat) : Int32 × Mem :=
  (mi M (rr E v0 4) 0, wi M (rr E v0 4) 0 (0 : Int32))
set_option maxRecDepth 100000 in
set_option maxHeartbeats 4000000 in
theorem ok_X8_clear {E : Env1} (hE : WF E) (l0 : Launch) {M : Mem} {M' : Mem} {v0 : Nat} {r : Int32} (h0 : isK E v0 7) (hf : f_X8_clear E M v0 = (r, M')) : Met l0 yX8_clear (wsA yX8_clear cX8_clear 2 (some .int)) rm_X8_clear (CP E M [.ref v0]) (CQi E r M') 0 0 (eA E) := by
  unfold f_X8_clear at hf
  refine mtI l0 (by decide +kernel) (Nat.le_of_ble_eq_true rfl) (L0 := [some (.ref v0), none]) rfl (fun X h hR => ?_)
  refine G_aload_n h dX8_clear_0 (i := 0) rfl rfl rfl ?_
  refine gf_X8_30 h hE dX8_clear_1 h0 rfl ?_
  refine gf_X8_76 h dX8_clear_4 ((w_7_4 hE h0).2) rfl ?_
  refine G_istore_n h dX8_clear_7 (i := 1) rfl (by decide) (L' := [some (.ref v0), some (.int (mi M (rr E v0 4) 0))]) rfl rfl ?_
  refine G_aload_n h dX8_clear_8 (i := 0) rfl rfl rfl ?_
  refine gf_X8_30 h hE dX8_clear_9 h0 rfl ?_
  refine G_iconst h dX8_clear_12 ki_0 rfl ?_
  refine pf_X8_76 h dX8_clear_13 ((w_7_4 hE h0).2) rfl ?_
  refine G_iload_n h dX8_clear_16 (i := 1) rfl rfl rfl ?_
  exact twI hR dX8_clear_17 hf
def rm_X8_counted : Room := { frames := 2, cells := 0, slots := 0, locals := 42 }
def f_X8_counted (E : Env1) (M : Mem) (v0 : Nat) (v1 : Int32) : Option (Int32) :=
  if v1 = 0 then (some (mi M (rr E v0 0) 0))
  else if v1 = 1 then (some (mi M (rr E (rr E v0 0) 3) 4))
  else if v1 = 2 then (
    (f_X5_knownTogether E M (rr E (rr E v0 0) 3)).bind fun x4 =>
    some x4)
  else if v1 = 3 then (some (f_J6_bitCount_0f7a4 E M (mi M (rr E (rr E v0 0) 3) 3)))
  else if v1 = 4 then (
    (f_X5_atTop E M (rr E (rr E v0 0) 3)).bind fun x7 =>
    some x7)
  else if v1 = 5 then (some (mi M (rr E (rr E v0 0) 6) 0))
  else if v1 = 6 then (some (mi M (rr E (rr E v0 0) 7) 0))
  else if v1 = 7 then (some (mi M (rr E (rr E v0 0) 8) 0))
  else if v1 = 8 then (some (mi M (rr E v0 0) 5))
  else (some (mi M (rr E v0 4) 0))
set_option maxRecDepth 100000 in
set_option maxHeartbeats 4000000 in
theorem ok_X8_counted {E : Env1} (hE : WF E) (l0 : Launch) {M : Mem} {v0 : Nat} {v1 : Int32} {r : Int32} (h0 : isK E v0 7) (hf : f_X8_counted E M v0 v1 = some r) : Met l0 yX8_counted (wsA yX8_counted cX8_counted 2 (some .int)) rm_X8_counted (CP E M [.ref v0, .int v1]) (CQi E r M) 0 0 (eA E) := by
  unfold f_X8_counted at hf
  refine mtI l0 (by decide +kernel) (Nat.le_of_ble_eq_true rfl) (L0 := [some (.ref v0), some (.int v1)]) rfl (fun X h hR => ?_)
  refine G_iload_n h dX8_counted_0 (i := 1) rfl rfl rfl ?_
  by_cases c1 : v1 = 0
  · have hf := it_t c1 hf
    refine G_tsIn h dX8_counted_1 c1 (v := 0) (j := 0) (by decide) (by decide) rfl (tgt := 52) (by decide) ?_
    refine G_aload_n h dX8_counted_52 (i := 0) rfl rfl rfl ?_
    refine gf_X8_10 h hE dX8_counted_53 h0 rfl ?_
    refine gf_X8_58 h dX8_counted_56 ((w_7_0 hE h0).2) rfl ?_
    exact roI hR dX8_counted_59 hf
  have hf := it_f c1 hf
  by_cases c2 : v1 = 1
  · have hf := it_t c2 hf
    refine G_tsIn h dX8_counted_1 c2 (v := 1) (j := 1) (by decide) (by decide) rfl (tgt := 60) (by decide) ?_
    refine G_aload_n h dX8_counted_60 (i := 0) rfl rfl rfl ?_
    refine gf_X8_10 h hE dX8_counted_61 h0 rfl ?_
    refine gf_X8_98 h hE dX8_counted_64 ((w_7_0 hE h0).2) rfl ?_
    refine gf_X8_108 h dX8_counted_67 ((w_0_3 hE ((w_7_0 hE h0).2)).2) rfl ?_
    exact roI hR dX8_counted_70 hf
  have hf := it_f c2 hf
  by_cases c3 : v1 = 2
  · have hf := it_t c3 hf
    refine G_tsIn h dX8_counted_1 c3 (v := 2) (j := 2) (by decide) (by decide) rfl (tgt := 71) (by decide) ?_
    refine G_aload_n h dX8_counted_71 (i := 0) rfl rfl rfl ?_
    refine gf_X8_10 h hE dX8_counted_72 h0 rfl ?_
    refine gf_X8_98 h hE dX8_counted_75 ((w_7_0 hE h0).2) rfl ?_
    obtain ⟨x4, hx4, hf⟩ := bd hf
    refine cl_X8_134 h (ok_X5_knownTogether hE _ ((w_0_3 hE ((w_7_0 hE h0).2)).2) hx4) dX8_counted_78 ((w_0_3 hE ((w_7_0 hE h0).2)).2) (as := []) rfl rfl ⟨rfl, rfl, Nat.le_of_ble_eq_true rfl, Nat.le_of_ble_eq_true rfl⟩ rfl (Nat.le_of_ble_eq_true rfl) ?_
    exact roI hR dX8_counted_81 hf
  have hf := it_f c3 hf
  by_cases c5 : v1 = 3
  · have hf := it_t c5 hf
    refine G_tsIn h dX8_counted_1 c5 (v := 3) (j := 3) (by decide) (by decide) rfl (tgt := 82) (by decide) ?_
    refine G_aload_n h dX8_counted_82 (i := 0) rfl rfl rfl ?_
    refine gf_X8_10 h hE dX8_counted_83 h0 rfl ?_
    refine gf_X8_98 h hE dX8_counted_86 ((w_7_0 hE h0).2) rfl ?_
    refine gf_X8_137 h dX8_counted_89 ((w_0_3 hE ((w_7_0 hE h0).2)).2) rfl ?_
    refine cl_X8_143 h (ok_J6_bitCount_0f7a4 hE _  (r := f_J6_bitCount_0f7a4 E M (mi M (rr E (rr E v0 0) 3) 3)) rfl) dX8_counted_92 (as := [.int (mi M (rr E (rr E v0 0) 3) 3)]) rfl rfl ⟨rfl, rfl, Nat.le_of_ble_eq_true rfl, Nat.le_of_ble_eq_true rfl⟩ rfl (Nat.le_of_ble_eq_true rfl) ?_
    exact roI hR dX8_counted_95 hf
  have hf := it_f c5 hf
  by_cases c6 : v1 = 4
  · have hf := it_t c6 hf
    refine G_tsIn h dX8_counted_1 c6 (v := 4) (j := 4) (by decide) (by decide) rfl (tgt := 96) (by decide) ?_
    refine G_aload_n h dX8_counted_96 (i := 0) rfl rfl rfl ?_
    refine gf_X8_10 h hE dX8_counted_97 h0 rfl ?_
    refine gf_X8_98 h hE dX8_counted_100 ((w_7_0 hE h0).2) rfl ?_
    obtain ⟨x7, hx7, hf⟩ := bd hf
    refine cl_X8_288 h (ok_X5_atTop hE _ ((w_0_3 hE ((w_7_0 hE h0).2)).2) hx7) dX8_counted_103 ((w_0_3 hE ((w_7_0 hE h0).2)).2) (as := []) rfl rfl ⟨rfl, rfl, Nat.le_of_ble_eq_true rfl, Nat.le_of_ble_eq_true rfl⟩ rfl (Nat.le_of_ble_eq_true rfl) ?_
    exact roI hR dX8_counted_106 hf
  have hf := it_f c6 hf
  by_cases c8 : v1 = 5
  · have hf := it_t c8 hf
    refine G_tsIn h dX8_counted_1 c8 (v := 5) (j := 5) (by decide) (by decide) rfl (tgt := 107) (by decide) ?_
    refine G_aload_n h dX8_counted_107 (i := 0) rfl rfl rfl ?_
    refine gf_X8_10 h hE dX8_counted_108 h0 rfl ?_
    refine gf_X8_200 h hE dX8_counted_111 ((w_7_0 hE h0).2) rfl ?_
    refine gf_X8_284 h dX8_counted_114 ((w_0_6 hE ((w_7_0 hE h0).2)).2) rfl ?_
    exact roI hR dX8_counted_117 hf
  have hf := it_f c8 hf
  by_cases c9 : v1 = 6
  · have hf := it_t c9 hf
    refine G_tsIn h dX8_counted_1 c9 (v := 6) (j := 6) (by decide) (by decide) rfl (tgt := 118) (by decide) ?_
    refine G_aload_n h dX8_counted_118 (i := 0) rfl rfl rfl ?_
    refine gf_X8_10 h hE dX8_counted_119 h0 rfl ?_
    refine gf_X8_211 h hE dX8_counted_122 ((w_7_0 hE h0).2) rfl ?_
    refine gf_X8_284 h dX8_counted_125 ((w_0_7 hE ((w_7_0 hE h0).2)).2) rfl ?_
    exact roI hR dX8_counted_128 hf
  have hf := it_f c9 hf
  by_cases c10 : v1 = 7
  · have hf := it_t c10 hf
    refine G_tsIn h dX8_counted_1 c10 (v := 7) (j := 7) (by decide) (by decide) rfl (tgt := 129) (by decide) ?_
    refine G_aload_n h dX8_counted_129 (i := 0) rfl rfl rfl ?_
    refine gf_X8_10 h hE dX8_counted_130 h0 rfl ?_
    refine gf_X8_214 h hE dX8_counted_133 ((w_7_0 hE h0).2) rfl ?_
    refine gf_X8_284 h dX8_counted_136 ((w_0_8 hE ((w_7_0 hE h0).2)).2) rfl ?_
    exact roI hR dX8_counted_139 hf
  have hf := it_f c10 hf
  by_cases c11 : v1 = 8
  · have hf := it_t c11 hf
    refine G_tsIn h dX8_counted_1 c11 (v := 8) (j := 8) (by decide) (by decide) rfl (tgt := 140) (by decide) ?_
    refine G_aload_n h dX8_counted_140 (i := 0) rfl rfl rfl ?_
    refine gf_X8_10 h hE dX8_counted_141 h0 rfl ?_
    refine gf_X8_151 h dX8_counted_144 ((w_7_0 hE h0).2) rfl ?_
    exact roI hR dX8_counted_147 hf
  have hf := it_f c11 hf
  have nc1 := ne_lit c1 (n := 0) (by decide)
  have nc2 := ne_lit c2 (n := 1) (by decide)
  have nc3 := ne_lit c3 (n := 2) (by decide)
  have nc5 := ne_lit c5 (n := 3) (by decide)
  have nc6 := ne_lit c6 (n := 4) (by decide)
  have nc8 := ne_lit c8 (n := 5) (by decide)
  have nc9 := ne_lit c9 (n := 6) (by decide)
  have nc10 := ne_lit c10 (n := 7) (by decide)
  have nc11 := ne_lit c11 (n := 8) (by decide)
  refine G_tsOut h dX8_counted_1 (by omega) (tgt := 148) (by decide) ?_
  refine G_aload_n h dX8_counted_148 (i := 0) rfl rfl rfl ?_
  refine gf_X8_30 h hE dX8_counted_149 h0 rfl ?_
  refine gf_X8_76 h dX8_counted_152 ((w_7_4 hE h0).2) rfl ?_
  exact roI hR dX8_counted_155 hf
def rm_X8_count : Room := { frames := 3, cells := 0, slots := 0, locals := 63 }
def f_X8_count (E : Env1) (M : Mem) (v0 : Nat) (v1 : Int32) : Option (Int32 × Mem) :=
  if (f_X8_within E M v1 (0 : Int32) (9 : Int32)) = 0 then (
    nm (f_X8_refuse E M v0 (-2 : Int32)) fun x3 =>
    some (x3.1, x3.2))
  else (
    (f_X8_counted E M v0 v1).bind fun x4 =>
    some (x4, M))
set_option maxRecDepth 100000 in
set_option maxHeartbeats 4000000 in
theorem ok_X8_count {E : Env1} (hE : WF E) (l0 : Launch) {M : Mem} {M' : Mem} {v0 : Nat} {v1 : Int32} {r : Int32} (h0 : isK E v0 7) (hf : f_X8_count E M v0 v1 = some (r, M')) : Met l0 yX8_count (wsA yX8_count cX8_count 2 (some .int)) rm_X8_count (CP E M [.ref v0, .int v1]) (CQi E r M') 0 0 (eA E) := by
  unfold f_X8_count at hf
  refine mtI l0 (by decide +kernel) (Nat.le_of_ble_eq_true rfl) (L0 := [some (.ref v0), some (.int v1)]) rfl (fun X h hR => ?_)
  refine G_iload_n h dX8_count_0 (i := 1) rfl rfl rfl ?_
  refine G_iconst h dX8_count_1 ki_0 rfl ?_
  refine G_bipush h dX8_count_2 kb_9 rfl ?_
  refine cl_X8_64 h (ok_X8_within hE _  (r := f_X8_within E M v1 (0 : Int32) (9 : Int32)) rfl) dX8_count_4 (as := [.int v1, .int (0 : Int32), .int (9 : Int32)]) rfl rfl ⟨rfl, rfl, Nat.le_of_ble_eq_true rfl, Nat.le_of_ble_eq_true rfl⟩ rfl (Nat.le_of_ble_eq_true rfl) (fun z1 => ?_)
  refine G_if_eq h dX8_count_7 (tgt := 18) (by decide) rfl (fun c2 => ?_) (fun c2 => ?_)
  · have hf := it_t c2 hf
    refine G_aload_n h dX8_count_18 (i := 0) rfl rfl rfl ?_
    refine G_bipush h dX8_count_19 kb_m2 rfl ?_
    obtain ⟨x3, hx3⟩ : ∃ x, x = f_X8_refuse E M v0 (-2 : Int32) := ⟨_, rfl⟩
    have hf := nm_eq hx3 hf
    refine cl_X8_68 h (ok_X8_refuse hE _ h0 hx3.symm) dX8_count_21 h0 (as := [.int (-2 : Int32)]) rfl rfl ⟨rfl, rfl, Nat.le_of_ble_eq_true rfl, Nat.le_of_ble_eq_true rfl⟩ rfl (Nat.le_of_ble_eq_true rfl) ?_
    exact pwI hR dX8_count_24 hf
  · have hf := it_f c2 hf
    refine G_aload_n h dX8_count_10 (i := 0) rfl rfl rfl ?_
    refine G_iload_n h dX8_count_11 (i := 1) rfl rfl rfl ?_
    obtain ⟨x4, hx4, hf⟩ := bd hf
    refine cl_X8_273 h (ok_X8_counted hE _ h0 hx4) dX8_count_12 h0 (as := [.int v1]) rfl rfl ⟨rfl, rfl, Nat.le_of_ble_eq_true rfl, Nat.le_of_ble_eq_true rfl⟩ rfl (Nat.le_of_ble_eq_true rfl) ?_
    refine G_goto h dX8_count_15 (tgt := 24) (by decide) ?_
    exact pwI hR dX8_count_24 hf
def rm_X8_digest : Room := { frames := 4, cells := 0, slots := 0, locals := 97 }
def b_X8_digest_L6 (E : Env1) (M : Mem) (k6 : Nat → Int64 → Int32 → (Option (Int64))) (v0 : Nat) (v1 : Int64) (v3 : Int32) : Option (Int64) :=
  if (9 : Int32) < v3 then (
    (f_X0_digestOn E M (rr E v0 0) v1).bind fun x2 =>
    nm (((31 : Int64) * x2) + (ml M v0 6)) fun x3 =>
    some (((31 : Int64) * x3) + (ml M v0 7)))
  else (
    (f_X8_counted E M v0 v3).bind fun x4 =>
    nm (((31 : Int64) * v1) + x4.toInt64) fun x5 =>
    k6 v0 x5 (v3 + 1))
set_option maxRecDepth 100000 in
set_option maxHeartbeats 4000000 in
theorem ob_X8_digest_L6 {X : Ctx} {l0 : Launch} {E : Env1} (h : Cx X l0 E RX8 cX8_digest (some .long) 4 rm_X8_digest) (hE : WF E) {M : Mem} {r : Int64} (hR : RetL X E cX8_digest r M) {k6 : Nat → Int64 → Int32 → (Option (Int64))} (hk6 : ∀ (v0 : Nat) (v1 : Int64) (v3 : Int32), isK E v0 7 → k6 v0 v1 v3 = some r → G X E (0, 0) 6 [some (.ref v0), some (.long v1), none, some (.int v3)] [] M) {v0 : Nat} {v1 : Int64} {v3 : Int32} (h_v0 : isK E v0 7) (hf : b_X8_digest_L6 E M k6 v0 v1 v3 = some r) : G X E (0, 0) 6 [some (.ref v0), some (.long v1), none, some (.int v3)] [] M := by
  unfold b_X8_digest_L6 at hf
  refine G_iload_n h dX8_digest_6 (i := 3) rfl rfl rfl ?_
  refine G_bipush h dX8_digest_7 kb_9 rfl ?_
  refine G_icmp_gt h dX8_digest_9 (tgt := 31) (by decide) rfl (fun c1 => ?_) (fun c1 => ?_)
  · have hf := it_t c1 hf
    refine G_aload_n h dX8_digest_31 (i := 0) rfl rfl rfl ?_
    refine gf_X8_10 h hE dX8_digest_32 h_v0 rfl ?_
    refine G_lload_n h dX8_digest_35 (i := 1) rfl rfl rfl ?_
    obtain ⟨x2, hx2, hf⟩ := bd hf
    refine cl_X8_280 h (ok_X0_digestOn hE _ ((w_7_0 hE h_v0).2) hx2) dX8_digest_36 ((w_7_0 hE h_v0).2) (as := [.long v1]) rfl rfl ⟨rfl, rfl, Nat.le_of_ble_eq_true rfl, Nat.le_of_ble_eq_true rfl⟩ rfl (Nat.le_of_ble_eq_true rfl) ?_
    refine G_lstore_n h dX8_digest_39 (i := 1) rfl (by decide) (L' := [some (.ref v0), some (.long x2), none, some (.int v3)]) rfl rfl ?_
    refine G_ldc2 h q909 dX8_digest_40 rfl ?_
    refine G_lload_n h dX8_digest_43 (i := 1) rfl rfl rfl ?_
    refine G_lmul h dX8_digest_44 rfl ?_
    refine G_aload_n h dX8_digest_45 (i := 0) rfl rfl rfl ?_
    refine gf_X8_41 h dX8_digest_46 h_v0 rfl ?_
    refine G_ladd h dX8_digest_49 rfl ?_
    refine G_nml (fun x3 hx3 => ?_)
    have hf := nm_eq hx3 hf
    refine G_lstore_n h dX8_digest_50 (i := 1) rfl (by decide) (L' := [some (.ref v0), some (.long x3), none, some (.int v3)]) rfl rfl ?_
    refine G_ldc2 h q909 dX8_digest_51 rfl ?_
    refine G_lload_n h dX8_digest_54 (i := 1) rfl rfl rfl ?_
    refine G_lmul h dX8_digest_55 rfl ?_
    refine G_aload_n h dX8_digest_56 (i := 0) rfl rfl rfl ?_
    refine gf_X8_45 h dX8_digest_57 h_v0 rfl ?_
    refine G_ladd h dX8_digest_60 rfl ?_
    exact roL hR dX8_digest_61 hf
  · have hf := it_f c1 hf
    refine G_ldc2 h q909 dX8_digest_12 rfl ?_
    refine G_lload_n h dX8_digest_15 (i := 1) rfl rfl rfl ?_
    refine G_lmul h dX8_digest_16 rfl ?_
    refine G_aload_n h dX8_digest_17 (i := 0) rfl rfl rfl ?_
    refine G_iload_n h dX8_digest_18 (i := 3) rfl rfl rfl ?_
    obtain ⟨x4, hx4, hf⟩ := bd hf
    refine cl_X8_273 h (ok_X8_counted hE _ h_v0 hx4) dX8_digest_19 h_v0 (as := [.int v3]) rfl rfl ⟨rfl, rfl, Nat.le_of_ble_eq_true rfl, Nat.le_of_ble_eq_true rfl⟩ rfl (Nat.le_of_ble_eq_true rfl) ?_
    refine G_i2l h dX8_digest_22 rfl ?_
    refine G_ladd h dX8_digest_23 rfl ?_
    refine G_nml (fun x5 hx5 => ?_)
    have hf := nm_eq hx5 hf
    refine G_lstore_n h dX8_digest_24 (i := 1) rfl (by decide) (L' := [some (.ref v0), some (.long x5), none, some (.int v3)]) rfl rfl ?_
    refine G_iinc2 h dX8_digest_25 rfl ki_1 (by decide) (L' := [some (.ref v0), some (.long x5), none, some (.int (v3 + 1))]) rfl rfl ?_
    refine G_goto h dX8_digest_28 (tgt := 6) (by decide) ?_
    exact hk6 _ _ _ h_v0 hf
def f_X8_digest_L6 (E : Env1) (M : Mem) : Nat → Nat → Int64 → Int32 → (Option (Int64))
  | 0 => fun _ _ _ => none
  | n + 1 => b_X8_digest_L6 E M (f_X8_digest_L6 E M n)
theorem o_X8_digest_L6 {X : Ctx} {l0 : Launch} {E : Env1} (h : Cx X l0 E RX8 cX8_digest (some .long) 4 rm_X8_digest) (hE : WF E) {M : Mem} {r : Int64} (hR : RetL X E cX8_digest r M) : ∀ (n : Nat) (v0 : Nat) (v1 : Int64) (v3 : Int32), isK E v0 7 → f_X8_digest_L6 E M n v0 v1 v3 = some r → G X E (0, 0) 6 [some (.ref v0), some (.long v1), none, some (.int v3)] [] M := by
  intro n
  induction n with
  | zero =>
    intro _ _ _ a0 hf
    have h0 : (none : Option (Int64)) = some r := hf
    cases h0
  | succ n ih =>
    intro _ _ _ a0 hf
    exact ob_X8_digest_L6 h hE hR  ih a0 hf
def f_X8_digest (E : Env1) (M : Mem) (v0 : Nat) : Option (Int64) :=
  f_X8_digest_L6 E M FU v0 (1571 : Int64) (0 : Int32)
set_option maxRecDepth 100000 in
set_option maxHeartbeats 4000000 in
theorem ok_X8_digest {E : Env1} (hE : WF E) (l0 : Launch) {M : Mem} {v0 : Nat} {r : Int64} (h0 : isK E v0 7) (hf : f_X8_digest E M v0 = some r) : Met l0 yX8_digest (wsA yX8_digest cX8_digest 4 (some .long)) rm_X8_digest (CP E M [.ref v0]) (CQl E r M) 0 0 (eA E) := by
  unfold f_X8_digest at hf
  refine mtL l0 (by decide +kernel) (Nat.le_of_ble_eq_true rfl) (L0 := [some (.ref v0), none, none, none]) rfl (fun X h hR => ?_)
  refine G_ldc2 h q908 dX8_digest_0 rfl ?_
  refine G_lstore_n h dX8_digest_3 (i := 1) rfl (by decide) (L' := [some (.ref v0), some (.long (1571 : Int64)), none, none]) rfl rfl ?_
  refine G_iconst h dX8_digest_4 ki_0 rfl ?_
  refine G_istore_n h dX8_digest_5 (i := 3) rfl (by decide) (L' := [some (.ref v0), some (.long (1571 : Int64)), none, some (.int (0 : Int32))]) rfl rfl ?_
  exact o_X8_digest_L6 h hE hR  FU _ _ _ h0 hf
def rm_X8_evenings : Room := { frames := 5, cells := 0, slots := 0, locals := 117 }
def b_X8_evenings_L44 (E : Env1) (k44 : Mem → Nat → Int32 → Int64 → Int32 → (Option (Int32 × Mem))) (M : Mem) (v0 : Nat) (v2 : Int32) (v3 : Int64) (v5 : Int32) : Option (Int32 × Mem) :=
  if v2 ≤ v5 then (
    (f_X5_knownTogether E M (rr E (rr E v0 1) 3)).bind fun x2 =>
    some (x2, M))
  else (
    nm (((v3 * (1103515245 : Int64)) + (12345 : Int64)) - ((v3 * (1103515245 : Int64)) + (12345 : Int64)) / (2147483648 : Int64) * (2147483648 : Int64)) fun x3 =>
    nm (((x3 / (65536 : Int64)) - (x3 / (65536 : Int64)) / (6 : Int64) * (6 : Int64)).toInt32) fun x4 =>
    if (f_X0_hasPerson E M (rr E v0 1) x4) = 0 then (
      (f_X5_passMinute E M (rr E (rr E v0 1) 3)).bind fun x7 =>
      k44 x7 v0 v2 x3 (v5 + 1))
    else (
      (f_X0_introduce E M (rr E v0 1) x4 (((x3 / (1048576 : Int64)) - (x3 / (1048576 : Int64)) / (8 : Int64) * (8 : Int64)).toInt32)).bind fun x8 =>
      k44 x8 v0 v2 x3 (v5 + 1)))
set_option maxRecDepth 100000 in
set_option maxHeartbeats 4000000 in
theorem ob_X8_evenings_L44 {X : Ctx} {l0 : Launch} {E : Env1} (h : Cx X l0 E RX8 cX8_evenings (some .int) 7 rm_X8_evenings) (hE : WF E) {M' : Mem} {r : Int32} (hR : RetI X E cX8_evenings r M') {k44 : Mem → Nat → Int32 → Int64 → Int32 → (Option (Int32 × Mem))} (hk44 : ∀ (M : Mem) (v0 : Nat) (v2 : Int32) (v3 : Int64) (v5 : Int32), isK E v0 7 → k44 M v0 v2 v3 v5 = some (r, M') → G X E (0, 0) 44 [some (.ref v0), none, some (.int v2), some (.long v3), none, some (.int v5), none] [] M) {M : Mem} {v0 : Nat} {v2 : Int32} {v3 : Int64} {v5 : Int32} (h_v0 : isK E v0 7) (hf : b_X8_evenings_L44 E k44 M v0 v2 v3 v5 = some (r, M')) : G X E (0, 0) 44 [some (.ref v0), none, some (.int v2), some (.long v3), none, some (.int v5), none] [] M := by
  unfold b_X8_evenings_L44 at hf
  refine G_iload h dX8_evenings_44 rfl rfl ?_
  refine G_iload_n h dX8_evenings_46 (i := 2) rfl rfl rfl ?_
  refine G_icmp_ge h dX8_evenings_47 (tgt := 126) (by decide) rfl (fun c1 => ?_) (fun c1 => ?_)
  · have hf := it_t c1 hf
    refine G_aload_n h dX8_evenings_126 (i := 0) rfl rfl rfl ?_
    refine gf_X8_16 h hE dX8_evenings_127 h_v0 rfl ?_
    refine gf_X8_98 h hE dX8_evenings_130 ((w_7_1 hE h_v0).2) rfl ?_
    obtain ⟨x2, hx2, hf⟩ := bd hf
    refine cl_X8_134 h (ok_X5_knownTogether hE _ ((w_0_3 hE ((w_7_1 hE h_v0).2)).2) hx2) dX8_evenings_133 ((w_0_3 hE ((w_7_1 hE h_v0).2)).2) (as := []) rfl rfl ⟨rfl, rfl, Nat.le_of_ble_eq_true rfl, Nat.le_of_ble_eq_true rfl⟩ rfl (Nat.le_of_ble_eq_true rfl) ?_
    exact pwI hR dX8_evenings_136 hf
  · have hf := it_f c1 hf
    refine G_lload_n h dX8_evenings_50 (i := 3) rfl rfl rfl ?_
    refine G_ldc2 h q869 dX8_evenings_51 rfl ?_
    refine G_lmul h dX8_evenings_54 rfl ?_
    refine G_ldc2 h q870 dX8_evenings_55 rfl ?_
    refine G_ladd h dX8_evenings_58 rfl ?_
    refine G_ldc2 h q871 dX8_evenings_59 rfl ?_
    refine G_lrem h dX8_evenings_62 (by decide) rfl ?_
    refine G_nml (fun x3 hx3 => ?_)
    have hf := nm_eq hx3 hf
    refine G_lstore_n h dX8_evenings_63 (i := 3) rfl (by decide) (L' := [some (.ref v0), none, some (.int v2), some (.long x3), none, some (.int v5), none]) rfl rfl ?_
    refine G_lload_n h dX8_evenings_64 (i := 3) rfl rfl rfl ?_
    refine G_ldc2 h q872 dX8_evenings_65 rfl ?_
    refine G_ldiv h dX8_evenings_68 (by decide) rfl ?_
    refine G_ldc2 h q873 dX8_evenings_69 rfl ?_
    refine G_lrem h dX8_evenings_72 (by decide) rfl ?_
    refine G_l2i h dX8_evenings_73 rfl ?_
    refine G_nmi (fun x4 hx4 => ?_)
    have hf := nm_eq hx4 hf
    refine G_istore h dX8_evenings_74  (by decide) (L' := [some (.ref v0), none, some (.int v2), some (.long x3), none, some (.int v5), some (.int x4)]) rfl rfl ?_
    refine G_aload_n h dX8_evenings_76 (i := 0) rfl rfl rfl ?_
    refine gf_X8_16 h hE dX8_evenings_77 h_v0 rfl ?_
    refine G_iload h dX8_evenings_80 rfl rfl ?_
    refine cl_X8_91 h (ok_X0_hasPerson hE _ ((w_7_1 hE h_v0).2) (r := f_X0_hasPerson E M (rr E v0 1) x4) rfl) dX8_evenings_82 ((w_7_1 hE h_v0).2) (as := [.int x4]) rfl rfl ⟨rfl, rfl, Nat.le_of_ble_eq_true rfl, Nat.le_of_ble_eq_true rfl⟩ rfl (Nat.le_of_ble_eq_true rfl) (fun z5 => ?_)
    refine G_if_eq h dX8_evenings_85 (tgt := 110) (by decide) rfl (fun c6 => ?_) (fun c6 => ?_)
    · have hf := it_t c6 hf
      refine G_aload_n h dX8_evenings_110 (i := 0) rfl rfl rfl ?_
      refine gf_X8_16 h hE dX8_evenings_111 h_v0 rfl ?_
      refine gf_X8_98 h hE dX8_evenings_114 ((w_7_1 hE h_v0).2) rfl ?_
      obtain ⟨x7, hx7, hf⟩ := bd hf
      refine cl_X8_128 h (ok_X5_passMinute hE _ ((w_0_3 hE ((w_7_1 hE h_v0).2)).2) hx7) dX8_evenings_117 ((w_0_3 hE ((w_7_1 hE h_v0).2)).2) (as := []) rfl rfl ⟨rfl, rfl, Nat.le_of_ble_eq_true rfl, Nat.le_of_ble_eq_true rfl⟩ rfl (Nat.le_of_ble_eq_true rfl) ?_
      refine G_iinc2 h dX8_evenings_120 rfl ki_1 (by decide) (L' := [some (.ref v0), none, some (.int v2), some (.long x3), none, some (.int (v5 + 1)), some (.int x4)]) rfl rfl ?_
      refine G_goto h dX8_evenings_123 (tgt := 44) (by decide) ?_
      refine G_mskL [true, false, true, true, false, true, false] (L' := [some (.ref v0), none, some (.int v2), some (.long x3), none, some (.int (v5 + 1)), none]) rfl ?_
      exact hk44 _ _ _ _ _ h_v0 hf
    · have hf := it_f c6 hf
      refine G_aload_n h dX8_evenings_88 (i := 0) rfl rfl rfl ?_
      refine gf_X8_16 h hE dX8_evenings_89 h_v0 rfl ?_
      refine G_iload h dX8_evenings_92 rfl rfl ?_
      refine G_lload_n h dX8_evenings_94 (i := 3) rfl rfl rfl ?_
      refine G_ldc2 h q874 dX8_evenings_95 rfl ?_
      refine G_ldiv h dX8_evenings_98 (by decide) rfl ?_
      refine G_ldc2 h q875 dX8_evenings_99 rfl ?_
      refine G_lrem h dX8_evenings_102 (by decide) rfl ?_
      refine G_l2i h dX8_evenings_103 rfl ?_
      obtain ⟨x8, hx8, hf⟩ := bd hf
      refine cl_X8_114 h (ok_X0_introduce hE _ ((w_7_1 hE h_v0).2) hx8) dX8_evenings_104 ((w_7_1 hE h_v0).2) (as := [.int x4, .int (((x3 / (1048576 : Int64)) - (x3 / (1048576 : Int64)) / (8 : Int64) * (8 : Int64)).toInt32)]) rfl rfl ⟨rfl, rfl, Nat.le_of_ble_eq_true rfl, Nat.le_of_ble_eq_true rfl⟩ rfl (Nat.le_of_ble_eq_true rfl) ?_
      refine G_goto h dX8_evenings_107 (tgt := 120) (by decide) ?_
      refine G_iinc2 h dX8_evenings_120 rfl ki_1 (by decide) (L' := [some (.ref v0), none, some (.int v2), some (.long x3), none, some (.int (v5 + 1)), some (.int x4)]) rfl rfl ?_
      refine G_goto h dX8_evenings_123 (tgt := 44) (by decide) ?_
      refine G_mskL [true, false, true, true, false, true, false] (L' := [some (.ref v0), none, some (.int v2), some (.long x3), none, some (.int (v5 + 1)), none]) rfl ?_
      exact hk44 _ _ _ _ _ h_v0 hf
def f_X8_evenings_L44 (E : Env1) : Nat → Mem → Nat → Int32 → Int64 → Int32 → (Option (Int32 × Mem))
  | 0 => fun _ _ _ _ _ => none
  | n + 1 => b_X8_evenings_L44 E (f_X8_evenings_L44 E n)
theorem o_X8_evenings_L44 {X : Ctx} {l0 : Launch} {E : Env1} (h : Cx X l0 E RX8 cX8_evenings (some .int) 7 rm_X8_evenings) (hE : WF E) {M' : Mem} {r : Int32} (hR : RetI X E cX8_evenings r M') : ∀ (n : Nat) (M : Mem) (v0 : Nat) (v2 : Int32) (v3 : Int64) (v5 : Int32), isK E v0 7 → f_X8_evenings_L44 E n M v0 v2 v3 v5 = some (r, M') → G X E (0, 0) 44 [some (.ref v0), none, some (.int v2), some (.long v3), none, some (.int v5), none] [] M := by
  intro n
  induction n with
  | zero =>
    intro _ _ _ _ _ a0 hf
    have h0 : (none : Option (Int32 × Mem)) = some (r, M') := hf
    cases h0
  | succ n ih =>
    intro _ _ _ _ _ a0 hf
    exact ob_X8_evenings_L44 h hE hR  ih a0 hf
def f_X8_evenings (E : Env1) (M : Mem) (v0 : Nat) (v1 : Int32) (v2 : Int32) : Option (Int32 × Mem) :=
  if (f_X8_within E M v1 (0 : Int32) (999999 : Int32)) = 0 then (
    nm (f_X8_refuse E M v0 (-2 : Int32)) fun x3 =>
    some (x3.1, x3.2))
  else (
    if (f_X8_within E M v2 (0 : Int32) (60 : Int32)) = 0 then (
      nm (f_X8_refuse E M v0 (-2 : Int32)) fun x7 =>
      some (x7.1, x7.2))
    else (
      (f_X0_copyPeople E M (rr E v0 1) (rr E v0 0)).bind fun x6 =>
      f_X8_evenings_L44 E FU x6 v0 v2 v1.toInt64 (0 : Int32)))
set_option maxRecDepth 100000 in
set_option maxHeartbeats 4000000 in
theorem ok_X8_evenings {E : Env1} (hE : WF E) (l0 : Launch) {M : Mem} {M' : Mem} {v0 : Nat} {v1 : Int32} {v2 : Int32} {r : Int32} (h0 : isK E v0 7) (hf : f_X8_evenings E M v0 v1 v2 = some (r, M')) : Met l0 yX8_evenings (wsA yX8_evenings cX8_evenings 7 (some .int)) rm_X8_evenings (CP E M [.ref v0, .int v1, .int v2]) (CQi E r M') 0 0 (eA E) := by
  unfold f_X8_evenings at hf
  refine mtI l0 (by decide +kernel) (Nat.le_of_ble_eq_true rfl) (L0 := [some (.ref v0), some (.int v1), some (.int v2), none, none, none, none]) rfl (fun X h hR => ?_)
  refine G_iload_n h dX8_evenings_0 (i := 1) rfl rfl rfl ?_
  refine G_iconst h dX8_evenings_1 ki_0 rfl ?_
  refine G_ldc h q867 dX8_evenings_2 rfl ?_
  refine cl_X8_64 h (ok_X8_within hE _  (r := f_X8_within E M v1 (0 : Int32) (999999 : Int32)) rfl) dX8_evenings_4 (as := [.int v1, .int (0 : Int32), .int (999999 : Int32)]) rfl rfl ⟨rfl, rfl, Nat.le_of_ble_eq_true rfl, Nat.le_of_ble_eq_true rfl⟩ rfl (Nat.le_of_ble_eq_true rfl) (fun z1 => ?_)
  refine G_if_eq h dX8_evenings_7 (tgt := 20) (by decide) rfl (fun c2 => ?_) (fun c2 => ?_)
  · have hf := it_t c2 hf
    refine G_aload_n h dX8_evenings_20 (i := 0) rfl rfl rfl ?_
    refine G_bipush h dX8_evenings_21 kb_m2 rfl ?_
    obtain ⟨x3, hx3⟩ : ∃ x, x = f_X8_refuse E M v0 (-2 : Int32) := ⟨_, rfl⟩
    have hf := nm_eq hx3 hf
    refine cl_X8_68 h (ok_X8_refuse hE _ h0 hx3.symm) dX8_evenings_23 h0 (as := [.int (-2 : Int32)]) rfl rfl ⟨rfl, rfl, Nat.le_of_ble_eq_true rfl, Nat.le_of_ble_eq_true rfl⟩ rfl (Nat.le_of_ble_eq_true rfl) ?_
    exact pwI hR dX8_evenings_26 hf
  · have hf := it_f c2 hf
    refine G_iload_n h dX8_evenings_10 (i := 2) rfl rfl rfl ?_
    refine G_iconst h dX8_evenings_11 ki_0 rfl ?_
    refine G_bipush h dX8_evenings_12 kb_60 rfl ?_
    refine cl_X8_64 h (ok_X8_within hE _  (r := f_X8_within E M v2 (0 : Int32) (60 : Int32)) rfl) dX8_evenings_14 (as := [.int v2, .int (0 : Int32), .int (60 : Int32)]) rfl rfl ⟨rfl, rfl, Nat.le_of_ble_eq_true rfl, Nat.le_of_ble_eq_true rfl⟩ rfl (Nat.le_of_ble_eq_true rfl) (fun z4 => ?_)
    refine G_if_ne h dX8_evenings_17 (tgt := 27) (by decide) rfl (fun c5 => ?_) (fun c5 => ?_)
    · have hf := it_f c5 hf
      refine G_aload_n h dX8_evenings_27 (i := 0) rfl rfl rfl ?_
      refine gf_X8_16 h hE dX8_evenings_28 h0 rfl ?_
      refine G_aload_n h dX8_evenings_31 (i := 0) rfl rfl rfl ?_
      refine gf_X8_10 h hE dX8_evenings_32 h0 rfl ?_
      obtain ⟨x6, hx6, hf⟩ := bd hf
      refine cl_X8_256 h (ok_X0_copyPeople hE _ ((w_7_1 hE h0).2) ((w_7_0 hE h0).2) hx6) dX8_evenings_35 ((w_7_1 hE h0).2) (as := [.ref (rr E v0 0)]) rfl rfl ⟨rfl, rfl, Nat.le_of_ble_eq_true rfl, Nat.le_of_ble_eq_true rfl⟩ rfl (Nat.le_of_ble_eq_true rfl) ?_
      refine G_iload_n h dX8_evenings_38 (i := 1) rfl rfl rfl ?_
      refine G_i2l h dX8_evenings_39 rfl ?_
      refine G_lstore_n h dX8_evenings_40 (i := 3) rfl (by decide) (L' := [some (.ref v0), some (.int v1), some (.int v2), some (.long v1.toInt64), none, none, none]) rfl rfl ?_
      refine G_iconst h dX8_evenings_41 ki_0 rfl ?_
      refine G_istore h dX8_evenings_42  (by decide) (L' := [some (.ref v0), some (.int v1), some (.int v2), some (.long v1.toInt64), none, some (.int (0 : Int32)), none]) rfl rfl ?_
      refine G_mskL [true, false, true, true, false, true, false] (L' := [some (.ref v0), none, some (.int v2), some (.long v1.toInt64), none, some (.int (0 : Int32)), none]) rfl ?_
      exact o_X8_evenings_L44 h hE hR  FU _ _ _ _ _ h0 hf
    · have hf := it_t c5 hf
      refine G_aload_n h dX8_evenings_20 (i := 0) rfl rfl rfl ?_
      refine G_bipush h dX8_evenings_21 kb_m2 rfl ?_
      obtain ⟨x7, hx7⟩ : ∃ x, x = f_X8_refuse E M v0 (-2 : Int32) := ⟨_, rfl⟩
      have hf := nm_eq hx7 hf
      refine cl_X8_68 h (ok_X8_refuse hE _ h0 hx7.symm) dX8_evenings_23 h0 (as := [.int (-2 : Int32)]) rfl rfl ⟨rfl, rfl, Nat.le_of_ble_eq_true rfl, Nat.le_of_ble_eq_true rfl⟩ rfl (Nat.le_of_ble_eq_true rfl) ?_
      exact pwI hR dX8_evenings_26 hf
def rm_X8_forget : Room := { frames := 1, cells := 0, slots := 0, locals := 21 }
def f_X8_forget (E : Env1) (M : Mem) (v0 : Nat) (v1 : Int32) : Int32 × Mem :=
  if v1 = 0 then (
    nm (f_X4_drop E M (rr E (rr E v0 0) 6)) fun x2 =>
    (x2.1, x2.2))
  else if v1 = 1 then (
    nm (f_X4_drop E M (rr E (rr E v0 0) 7)) fun x4 =>
    (x4.1, x4.2))
  else if v1 = 2 then (
    nm (f_X4_drop E M (rr E (rr E v0 0) 8)) fun x6 =>
    (x6.1, x6.2))
  else (
    nm (f_X8_refuse E M v0 (-2 : Int32)) fun x7 =>
    (x7.1, x7.2))
set_option maxRecDepth 100000 in
set_option maxHeartbeats 4000000 in
theorem ok_X8_forget {E : Env1} (hE : WF E) (l0 : Launch) {M : Mem} {M' : Mem} {v0 : Nat} {v1 : Int32} {r : Int32} (h0 : isK E v0 7) (hf : f_X8_forget E M v0 v1 = (r, M')) : Met l0 yX8_forget (wsA yX8_forget cX8_forget 2 (some .int)) rm_X8_forget (CP E M [.ref v0, .int v1]) (CQi E r M') 0 0 (eA E) := by
  unfold f_X8_forget at hf
  refine mtI l0 (by decide +kernel) (Nat.le_of_ble_eq_true rfl) (L0 := [some (.ref v0), some (.int v1)]) rfl (fun X h hR => ?_)
  refine G_iload_n h dX8_forget_0 (i := 1) rfl rfl rfl ?_
  by_cases c1 : v1 = 0
  · have hf := it_t c1 hf
    refine G_tsIn h dX8_forget_1 c1 (v := 0) (j := 0) (by decide) (by decide) rfl (tgt := 28) (by decide) ?_
    refine G_aload_n h dX8_forget_28 (i := 0) rfl rfl rfl ?_
    refine gf_X8_10 h hE dX8_forget_29 h0 rfl ?_
    refine gf_X8_200 h hE dX8_forget_32 ((w_7_0 hE h0).2) rfl ?_
    obtain ⟨x2, hx2⟩ : ∃ x, x = f_X4_drop E M (rr E (rr E v0 0) 6) := ⟨_, rfl⟩
    have hf := nm_eq hx2 hf
    refine cl_X8_217 h (ok_X4_drop hE _ ((w_0_6 hE ((w_7_0 hE h0).2)).2) hx2.symm) dX8_forget_35 ((w_0_6 hE ((w_7_0 hE h0).2)).2) (as := []) rfl rfl ⟨rfl, rfl, Nat.le_of_ble_eq_true rfl, Nat.le_of_ble_eq_true rfl⟩ rfl (Nat.le_of_ble_eq_true rfl) ?_
    exact twI hR dX8_forget_38 hf
  have hf := it_f c1 hf
  by_cases c3 : v1 = 1
  · have hf := it_t c3 hf
    refine G_tsIn h dX8_forget_1 c3 (v := 1) (j := 1) (by decide) (by decide) rfl (tgt := 39) (by decide) ?_
    refine G_aload_n h dX8_forget_39 (i := 0) rfl rfl rfl ?_
    refine gf_X8_10 h hE dX8_forget_40 h0 rfl ?_
    refine gf_X8_211 h hE dX8_forget_43 ((w_7_0 hE h0).2) rfl ?_
    obtain ⟨x4, hx4⟩ : ∃ x, x = f_X4_drop E M (rr E (rr E v0 0) 7) := ⟨_, rfl⟩
    have hf := nm_eq hx4 hf
    refine cl_X8_217 h (ok_X4_drop hE _ ((w_0_7 hE ((w_7_0 hE h0).2)).2) hx4.symm) dX8_forget_46 ((w_0_7 hE ((w_7_0 hE h0).2)).2) (as := []) rfl rfl ⟨rfl, rfl, Nat.le_of_ble_eq_true rfl, Nat.le_of_ble_eq_true rfl⟩ rfl (Nat.le_of_ble_eq_true rfl) ?_
    exact twI hR dX8_forget_49 hf
  have hf := it_f c3 hf
  by_cases c5 : v1 = 2
  · have hf := it_t c5 hf
    refine G_tsIn h dX8_forget_1 c5 (v := 2) (j := 2) (by decide) (by decide) rfl (tgt := 50) (by decide) ?_
    refine G_aload_n h dX8_forget_50 (i := 0) rfl rfl rfl ?_
    refine gf_X8_10 h hE dX8_forget_51 h0 rfl ?_
    refine gf_X8_214 h hE dX8_forget_54 ((w_7_0 hE h0).2) rfl ?_
    obtain ⟨x6, hx6⟩ : ∃ x, x = f_X4_drop E M (rr E (rr E v0 0) 8) := ⟨_, rfl⟩
    have hf := nm_eq hx6 hf
    refine cl_X8_217 h (ok_X4_drop hE _ ((w_0_8 hE ((w_7_0 hE h0).2)).2) hx6.symm) dX8_forget_57 ((w_0_8 hE ((w_7_0 hE h0).2)).2) (as := []) rfl rfl ⟨rfl, rfl, Nat.le_of_ble_eq_true rfl, Nat.le_of_ble_eq_true rfl⟩ rfl (Nat.le_of_ble_eq_true rfl) ?_
    exact twI hR dX8_forget_60 hf
  have hf := it_f c5 hf
  have nc1 := ne_lit c1 (n := 0) (by decide)
  have nc3 := ne_lit c3 (n := 1) (by decide)
  have nc5 := ne_lit c5 (n := 2) (by decide)
  refine G_tsOut h dX8_forget_1 (by omega) (tgt := 61) (by decide) ?_
  refine G_aload_n h dX8_forget_61 (i := 0) rfl rfl rfl ?_
  refine G_bipush h dX8_forget_62 kb_m2 rfl ?_
  obtain ⟨x7, hx7⟩ : ∃ x, x = f_X8_refuse E M v0 (-2 : Int32) := ⟨_, rfl⟩
  have hf := nm_eq hx7 hf
  refine cl_X8_68 h (ok_X8_refuse hE _ h0 hx7.symm) dX8_forget_64 h0 (as := [.int (-2 : Int32)]) rfl rfl ⟨rfl, rfl, Nat.le_of_ble_eq_true rfl, Nat.le_of_ble_eq_true rfl⟩ rfl (Nat.le_of_ble_eq_true rfl) ?_
  exact twI hR dX8_forget_67 hf
def rm_X8_from : Room := { frames := 3, cells := 0, slots := 0, locals := 66 }
def f_X8_from (E : Env1) (M : Mem) (v0 : Nat) (v1 : Int32) : Option (Int32 × Mem) :=
  if (f_X8_within E M v1 (0 : Int32) (1 : Int32)) = 0 then (
    nm (f_X8_refuse E M v0 (-2 : Int32)) fun x8 =>
    some (x8.1, x8.2))
  else (
    gd v1 2 (if (mi M (rr E v0 3) (ix v1)) = 0 then (
      nm (f_X8_refuse E M v0 (-3 : Int32)) fun x7 =>
      some (x7.1, x7.2))
    else (
      (f_X0_copyFrom E M (rr E v0 0) (rr E (rr E v0 2) (ix v1))).bind fun x6 =>
      some ((1 : Int32), x6))))
set_option maxRecDepth 100000 in
set_option maxHeartbeats 4000000 in
theorem ok_X8_from {E : Env1} (hE : WF E) (l0 : Launch) {M : Mem} {M' : Mem} {v0 : Nat} {v1 : Int32} {r : Int32} (h0 : isK E v0 7) (hf : f_X8_from E M v0 v1 = some (r, M')) : Met l0 yX8_from (wsA yX8_from cX8_from 2 (some .int)) rm_X8_from (CP E M [.ref v0, .int v1]) (CQi E r M') 0 0 (eA E) := by
  unfold f_X8_from at hf
  refine mtI l0 (by decide +kernel) (Nat.le_of_ble_eq_true rfl) (L0 := [some (.ref v0), some (.int v1)]) rfl (fun X h hR => ?_)
  refine G_iload_n h dX8_from_0 (i := 1) rfl rfl rfl ?_
  refine G_iconst h dX8_from_1 ki_0 rfl ?_
  refine G_iconst h dX8_from_2 ki_1 rfl ?_
  refine cl_X8_64 h (ok_X8_within hE _  (r := f_X8_within E M v1 (0 : Int32) (1 : Int32)) rfl) dX8_from_3 (as := [.int v1, .int (0 : Int32), .int (1 : Int32)]) rfl rfl ⟨rfl, rfl, Nat.le_of_ble_eq_true rfl, Nat.le_of_ble_eq_true rfl⟩ rfl (Nat.le_of_ble_eq_true rfl) (fun z1 => ?_)
  refine G_if_ne h dX8_from_6 (tgt := 16) (by decide) rfl (fun c2 => ?_) (fun c2 => ?_)
  · have hf := it_f c2 hf
    refine G_aload_n h dX8_from_16 (i := 0) rfl rfl rfl ?_
    refine gf_X8_23 h hE dX8_from_17 h0 rfl ?_
    refine G_iload_n h dX8_from_20 (i := 1) rfl rfl rfl ?_
    obtain ⟨g3, hf⟩ := gd_some hf
    refine G_zald h dX8_from_21 ((w_7_3 hE h0).2) g3 (jx := (ix v1)) rfl rfl ?_
    refine G_if_ne h dX8_from_22 (tgt := 32) (by decide) rfl (fun c4 => ?_) (fun c4 => ?_)
    · have hf := it_f c4 hf
      refine G_aload_n h dX8_from_32 (i := 0) rfl rfl rfl ?_
      refine gf_X8_10 h hE dX8_from_33 h0 rfl ?_
      refine G_aload_n h dX8_from_36 (i := 0) rfl rfl rfl ?_
      refine gf_X8_19 h hE dX8_from_37 h0 rfl ?_
      refine G_iload_n h dX8_from_40 (i := 1) rfl rfl rfl ?_
      refine G_aldH h hE dX8_from_41 ((w_7_2 hE h0).2) g3 (jx := (ix v1)) rfl rfl (fun hs5 => ?_)
      obtain ⟨x6, hx6, hf⟩ := bd hf
      refine cl_X8_87 h (ok_X0_copyFrom hE _ ((w_7_0 hE h0).2) hs5 hx6) dX8_from_42 ((w_7_0 hE h0).2) (as := [.ref (rr E (rr E v0 2) (ix v1))]) rfl rfl ⟨rfl, rfl, Nat.le_of_ble_eq_true rfl, Nat.le_of_ble_eq_true rfl⟩ rfl (Nat.le_of_ble_eq_true rfl) ?_
      refine G_iconst h dX8_from_45 ki_1 rfl ?_
      exact pwI hR dX8_from_46 hf
    · have hf := it_t c4 hf
      refine G_aload_n h dX8_from_25 (i := 0) rfl rfl rfl ?_
      refine G_bipush h dX8_from_26 kb_m3 rfl ?_
      obtain ⟨x7, hx7⟩ : ∃ x, x = f_X8_refuse E M v0 (-3 : Int32) := ⟨_, rfl⟩
      have hf := nm_eq hx7 hf
      refine cl_X8_68 h (ok_X8_refuse hE _ h0 hx7.symm) dX8_from_28 h0 (as := [.int (-3 : Int32)]) rfl rfl ⟨rfl, rfl, Nat.le_of_ble_eq_true rfl, Nat.le_of_ble_eq_true rfl⟩ rfl (Nat.le_of_ble_eq_true rfl) ?_
      exact pwI hR dX8_from_31 hf
  · have hf := it_t c2 hf
    refine G_aload_n h dX8_from_9 (i := 0) rfl rfl rfl ?_
    refine G_bipush h dX8_from_10 kb_m2 rfl ?_
    obtain ⟨x8, hx8⟩ : ∃ x, x = f_X8_refuse E M v0 (-2 : Int32) := ⟨_, rfl⟩
    have hf := nm_eq hx8 hf
    refine cl_X8_68 h (ok_X8_refuse hE _ h0 hx8.symm) dX8_from_12 h0 (as := [.int (-2 : Int32)]) rfl rfl ⟨rfl, rfl, Nat.le_of_ble_eq_true rfl, Nat.le_of_ble_eq_true rfl⟩ rfl (Nat.le_of_ble_eq_true rfl) ?_
    exact pwI hR dX8_from_15 hf
def rm_X8_refusePlace : Room := { frames := 1, cells := 0, slots := 0, locals := 21 }
def f_X8_refusePlace (E : Env1) (M : Mem) (v0 : Nat) : Int32 × Mem :=
  nm (f_X8_refuse E M v0 (-2 : Int32)) fun x1 =>
  ((-10 : Int32), x1.2)
set_option maxRecDepth 100000 in
set_option maxHeartbeats 4000000 in
theorem ok_X8_refusePlace {E : Env1} (hE : WF E) (l0 : Launch) {M : Mem} {M' : Mem} {v0 : Nat} {r : Int32} (h0 : isK E v0 7) (hf : f_X8_refusePlace E M v0 = (r, M')) : Met l0 yX8_refusePlace (wsA yX8_refusePlace cX8_refusePlace 1 (some .int)) rm_X8_refusePlace (CP E M [.ref v0]) (CQi E r M') 0 0 (eA E) := by
  unfold f_X8_refusePlace at hf
  refine mtI l0 (by decide +kernel) (Nat.le_of_ble_eq_true rfl) (L0 := [some (.ref v0)]) rfl (fun X h hR => ?_)
  refine G_aload_n h dX8_refusePlace_0 (i := 0) rfl rfl rfl ?_
  refine G_bipush h dX8_refusePlace_1 kb_m2 rfl ?_
  obtain ⟨x1, hx1⟩ : ∃ x, x = f_X8_refuse E M v0 (-2 : Int32) := ⟨_, rfl⟩
  have hf := nm_eq hx1 hf
  refine cl_X8_68 h (ok_X8_refuse hE _ h0 hx1.symm) dX8_refusePlace_3 h0 (as := [.int (-2 : Int32)]) rfl rfl ⟨rfl, rfl, Nat.le_of_ble_eq_true rfl, Nat.le_of_ble_eq_true rfl⟩ rfl (Nat.le_of_ble_eq_true rfl) ?_
  refine G_pop h dX8_refusePlace_6 rfl rfl ?_
  refine G_bipush h dX8_refusePlace_7 kb_m10 rfl ?_
  exact twI hR dX8_refusePlace_9 hf
def rm_X8_goes : Room := { frames := 3, cells := 0, slots := 0, locals := 67 }
def f_X8_goes (E : Env1) (M : Mem) (v0 : Nat) (v1 : Int32) (v2 : Int32) : Option (Int32 × Mem) :=
  if (f_X0_hasPerson E M (rr E v0 0) v1) = 0 then (
    nm (f_X8_refusePlace E M v0) fun x3 =>
    some (x3.1, x3.2))
  else (
    if (f_X8_within E M v2 (0 : Int32) (1 : Int32)) = 0 then (
      nm (f_X8_refusePlace E M v0) fun x16 =>
      some (x16.1, x16.2))
    else (
      nm (if v2 = (1 : Int32) then (8 : Int32) else (-1 : Int32)) fun x7 =>
      gd v1 6 (if (mi M (rr E (rr E (rr E v0 0) 3) 2) (ix v1)) = x7 then (
        nm (f_X8_refuse E M v0 (-3 : Int32)) fun x10 =>
        some (x10.1, x10.2))
      else (
        if (mi M (rr E (rr E v0 0) 3) 4) < (9999 : Int32) then (
          (f_X0_remember E M (rr E v0 0)).bind fun x12 =>
          (f_X5_walk E x12 (rr E (rr E v0 0) 3) v1 v2).bind fun x13 =>
          (f_X5_passMinute E x13 (rr E (rr E v0 0) 3)).bind fun x14 =>
          some (mi x14 (rr E (rr E (rr E v0 0) 3) 2) (ix v1), x14))
        else (
          nm (f_X8_refuse E M v0 (-3 : Int32)) fun x15 =>
          some (x15.1, x15.2))))))
set_option maxRecDepth 100000 in
set_option maxHeartbeats 4000000 in
theorem ok_X8_goes {E : Env1} (hE : WF E) (l0 : Launch) {M : Mem} {M' : Mem} {v0 : Nat} {v1 : Int32} {v2 : Int32} {r : Int32} (h0 : isK E v0 7) (hf : f_X8_goes E M v0 v1 v2 = some (r, M')) : Met l0 yX8_goes (wsA yX8_goes cX8_goes 4 (some .int)) rm_X8_goes (CP E M [.ref v0, .int v1, .int v2]) (CQi E r M') 0 0 (eA E) := by
  unfold f_X8_goes at hf
  refine mtI l0 (by decide +kernel) (Nat.le_of_ble_eq_true rfl) (L0 := [some (.ref v0), some (.int v1), some (.int v2), none]) rfl (fun X h hR => ?_)
  refine G_aload_n h dX8_goes_0 (i := 0) rfl rfl rfl ?_
  refine gf_X8_10 h hE dX8_goes_1 h0 rfl ?_
  refine G_iload_n h dX8_goes_4 (i := 1) rfl rfl rfl ?_
  refine cl_X8_91 h (ok_X0_hasPerson hE _ ((w_7_0 hE h0).2) (r := f_X0_hasPerson E M (rr E v0 0) v1) rfl) dX8_goes_5 ((w_7_0 hE h0).2) (as := [.int v1]) rfl rfl ⟨rfl, rfl, Nat.le_of_ble_eq_true rfl, Nat.le_of_ble_eq_true rfl⟩ rfl (Nat.le_of_ble_eq_true rfl) (fun z1 => ?_)
  refine G_if_eq h dX8_goes_8 (tgt := 20) (by decide) rfl (fun c2 => ?_) (fun c2 => ?_)
  · have hf := it_t c2 hf
    refine G_aload_n h dX8_goes_20 (i := 0) rfl rfl rfl ?_
    obtain ⟨x3, hx3⟩ : ∃ x, x = f_X8_refusePlace E M v0 := ⟨_, rfl⟩
    have hf := nm_eq hx3 hf
    refine cl_X8_117 h (ok_X8_refusePlace hE _ h0 hx3.symm) dX8_goes_21 h0 (as := []) rfl rfl ⟨rfl, rfl, Nat.le_of_ble_eq_true rfl, Nat.le_of_ble_eq_true rfl⟩ rfl (Nat.le_of_ble_eq_true rfl) ?_
    exact pwI hR dX8_goes_24 hf
  · have hf := it_f c2 hf
    refine G_iload_n h dX8_goes_11 (i := 2) rfl rfl rfl ?_
    refine G_iconst h dX8_goes_12 ki_0 rfl ?_
    refine G_iconst h dX8_goes_13 ki_1 rfl ?_
    refine cl_X8_64 h (ok_X8_within hE _  (r := f_X8_within E M v2 (0 : Int32) (1 : Int32)) rfl) dX8_goes_14 (as := [.int v2, .int (0 : Int32), .int (1 : Int32)]) rfl rfl ⟨rfl, rfl, Nat.le_of_ble_eq_true rfl, Nat.le_of_ble_eq_true rfl⟩ rfl (Nat.le_of_ble_eq_true rfl) (fun z4 => ?_)
    refine G_if_ne h dX8_goes_17 (tgt := 25) (by decide) rfl (fun c5 => ?_) (fun c5 => ?_)
    · have hf := it_f c5 hf
      refine G_iload_n h dX8_goes_25 (i := 2) rfl rfl rfl ?_
      refine G_iconst h dX8_goes_26 ki_1 rfl ?_
      have hJ : G X E (0, 0) 36 [some (.ref v0), some (.int v1), some (.int v2), none] [.int (if v2 = (1 : Int32) then (8 : Int32) else (-1 : Int32))] M := by
        refine G_nmi (fun x7 hx7 => ?_)
        have hf := nm_eq hx7 hf
        refine G_istore_n h dX8_goes_36 (i := 3) rfl (by decide) (L' := [some (.ref v0), some (.int v1), some (.int v2), some (.int x7)]) rfl rfl ?_
        refine G_aload_n h dX8_goes_37 (i := 0) rfl rfl rfl ?_
        refine gf_X8_10 h hE dX8_goes_38 h0 rfl ?_
        refine gf_X8_98 h hE dX8_goes_41 ((w_7_0 hE h0).2) rfl ?_
        refine gf_X8_121 h hE dX8_goes_44 ((w_0_3 hE ((w_7_0 hE h0).2)).2) rfl ?_
        refine G_iload_n h dX8_goes_47 (i := 1) rfl rfl rfl ?_
        obtain ⟨g8, hf⟩ := gd_some hf
        refine G_iald h dX8_goes_48 ((w_4_2 hE ((w_0_3 hE ((w_7_0 hE h0).2)).2)).2) g8 (jx := (ix v1)) rfl rfl ?_
        refine G_iload_n h dX8_goes_49 (i := 3) rfl rfl rfl ?_
        refine G_icmp_eq h dX8_goes_50 (tgt := 69) (by decide) rfl (fun c9 => ?_) (fun c9 => ?_)
        · have hf := it_t c9 hf
          refine G_aload_n h dX8_goes_69 (i := 0) rfl rfl rfl ?_
          refine G_bipush h dX8_goes_70 kb_m3 rfl ?_
          obtain ⟨x10, hx10⟩ : ∃ x, x = f_X8_refuse E M v0 (-3 : Int32) := ⟨_, rfl⟩
          have hf := nm_eq hx10 hf
          refine cl_X8_68 h (ok_X8_refuse hE _ h0 hx10.symm) dX8_goes_72 h0 (as := [.int (-3 : Int32)]) rfl rfl ⟨rfl, rfl, Nat.le_of_ble_eq_true rfl, Nat.le_of_ble_eq_true rfl⟩ rfl (Nat.le_of_ble_eq_true rfl) ?_
          exact pwI hR dX8_goes_75 hf
        · have hf := it_f c9 hf
          refine G_aload_n h dX8_goes_53 (i := 0) rfl rfl rfl ?_
          refine gf_X8_10 h hE dX8_goes_54 h0 rfl ?_
          refine gf_X8_98 h hE dX8_goes_57 ((w_7_0 hE h0).2) rfl ?_
          refine gf_X8_108 h dX8_goes_60 ((w_0_3 hE ((w_7_0 hE h0).2)).2) rfl ?_
          refine G_sipush h dX8_goes_63 ks_9999 rfl ?_
          refine G_icmp_lt h dX8_goes_66 (tgt := 76) (by decide) rfl (fun c11 => ?_) (fun c11 => ?_)
          · have hf := it_t c11 hf
            refine G_aload_n h dX8_goes_76 (i := 0) rfl rfl rfl ?_
            refine gf_X8_10 h hE dX8_goes_77 h0 rfl ?_
            obtain ⟨x12, hx12, hf⟩ := bd hf
            refine cl_X8_111 h (ok_X0_remember hE _ ((w_7_0 hE h0).2) hx12) dX8_goes_80 ((w_7_0 hE h0).2) (as := []) rfl rfl ⟨rfl, rfl, Nat.le_of_ble_eq_true rfl, Nat.le_of_ble_eq_true rfl⟩ rfl (Nat.le_of_ble_eq_true rfl) ?_
            refine G_aload_n h dX8_goes_83 (i := 0) rfl rfl rfl ?_
            refine gf_X8_10 h hE dX8_goes_84 h0 rfl ?_
            refine gf_X8_98 h hE dX8_goes_87 ((w_7_0 hE h0).2) rfl ?_
            refine G_iload_n h dX8_goes_90 (i := 1) rfl rfl rfl ?_
            refine G_iload_n h dX8_goes_91 (i := 2) rfl rfl rfl ?_
            obtain ⟨x13, hx13, hf⟩ := bd hf
            refine cl_X8_125 h (ok_X5_walk hE _ ((w_0_3 hE ((w_7_0 hE h0).2)).2) hx13) dX8_goes_92 ((w_0_3 hE ((w_7_0 hE h0).2)).2) (as := [.int v1, .int v2]) rfl rfl ⟨rfl, rfl, Nat.le_of_ble_eq_true rfl, Nat.le_of_ble_eq_true rfl⟩ rfl (Nat.le_of_ble_eq_true rfl) ?_
            refine G_aload_n h dX8_goes_95 (i := 0) rfl rfl rfl ?_
            refine gf_X8_10 h hE dX8_goes_96 h0 rfl ?_
            refine gf_X8_98 h hE dX8_goes_99 ((w_7_0 hE h0).2) rfl ?_
            obtain ⟨x14, hx14, hf⟩ := bd hf
            refine cl_X8_128 h (ok_X5_passMinute hE _ ((w_0_3 hE ((w_7_0 hE h0).2)).2) hx14) dX8_goes_102 ((w_0_3 hE ((w_7_0 hE h0).2)).2) (as := []) rfl rfl ⟨rfl, rfl, Nat.le_of_ble_eq_true rfl, Nat.le_of_ble_eq_true rfl⟩ rfl (Nat.le_of_ble_eq_true rfl) ?_
            refine G_aload_n h dX8_goes_105 (i := 0) rfl rfl rfl ?_
            refine gf_X8_10 h hE dX8_goes_106 h0 rfl ?_
            refine gf_X8_98 h hE dX8_goes_109 ((w_7_0 hE h0).2) rfl ?_
            refine gf_X8_121 h hE dX8_goes_112 ((w_0_3 hE ((w_7_0 hE h0).2)).2) rfl ?_
            refine G_iload_n h dX8_goes_115 (i := 1) rfl rfl rfl ?_
            refine G_iald h dX8_goes_116 ((w_4_2 hE ((w_0_3 hE ((w_7_0 hE h0).2)).2)).2) g8 (jx := (ix v1)) rfl rfl ?_
            exact pwI hR dX8_goes_117 hf
          · have hf := it_f c11 hf
            refine G_aload_n h dX8_goes_69 (i := 0) rfl rfl rfl ?_
            refine G_bipush h dX8_goes_70 kb_m3 rfl ?_
            obtain ⟨x15, hx15⟩ : ∃ x, x = f_X8_refuse E M v0 (-3 : Int32) := ⟨_, rfl⟩
            have hf := nm_eq hx15 hf
            refine cl_X8_68 h (ok_X8_refuse hE _ h0 hx15.symm) dX8_goes_72 h0 (as := [.int (-3 : Int32)]) rfl rfl ⟨rfl, rfl, Nat.le_of_ble_eq_true rfl, Nat.le_of_ble_eq_true rfl⟩ rfl (Nat.le_of_ble_eq_true rfl) ?_
            exact pwI hR dX8_goes_75 hf
      refine G_icmp_ne h dX8_goes_27 (tgt := 35) (by decide) rfl (fun c6 => ?_) (fun c6 => ?_)
      · refine G_iconst h dX8_goes_35 ki_m1 rfl ?_
        exact G_ifn c6 hJ
      · refine G_bipush h dX8_goes_30 kb_8 rfl ?_
        refine G_goto h dX8_goes_32 (tgt := 36) (by decide) ?_
        exact G_ifp c6 hJ
    · have hf := it_t c5 hf
      refine G_aload_n h dX8_goes_20 (i := 0) rfl rfl rfl ?_
      obtain ⟨x16, hx16⟩ : ∃ x, x = f_X8_refusePlace E M v0 := ⟨_, rfl⟩
      have hf := nm_eq hx16 hf
      refine cl_X8_117 h (ok_X8_refusePlace hE _ h0 hx16.symm) dX8_goes_21 h0 (as := []) rfl rfl ⟨rfl, rfl, Nat.le_of_ble_eq_true rfl, Nat.le_of_ble_eq_true rfl⟩ rfl (Nat.le_of_ble_eq_true rfl) ?_
      exact pwI hR dX8_goes_24 hf
def rm_X8_greatestDivisor : Room := { frames := 0, cells := 0, slots := 0, locals := 0 }
def b_X8_greatestDivisor_L3 (E : Env1) (M : Mem) (k3 : Int64 → Int64 → Int32 → (Option (Int64))) (v0 : Int64) (v2 : Int64) (v4 : Int32) : Option (Int64) :=
  if (100 : Int32) ≤ v4 then (some v0)
  else (
    if (lg_cmp v2 (0 : Int64)) = 0 then (some v0)
    else (gzl v2 (k3 v2 (v0 - v0 / v2 * v2) (v4 + 1))))
set_option maxRecDepth 100000 in
set_option maxHeartbeats 4000000 in
theorem ob_X8_greatestDivisor_L3 {X : Ctx} {l0 : Launch} {E : Env1} (h : Cx X l0 E RX8 cX8_greatestDivisor (some .long) 7 rm_X8_greatestDivisor) (hE : WF E) {M : Mem} {r : Int64} (hR : RetL X E cX8_greatestDivisor r M) {k3 : Int64 → Int64 → Int32 → (Option (Int64))} (hk3 : ∀ (v0 : Int64) (v2 : Int64) (v4 : Int32), k3 v0 v2 v4 = some r → G X E (0, 0) 3 [some (.long v0), none, some (.long v2), none, some (.int v4), none, none] [] M) {v0 : Int64} {v2 : Int64} {v4 : Int32}  (hf : b_X8_greatestDivisor_L3 E M k3 v0 v2 v4 = some r) : G X E (0, 0) 3 [some (.long v0), none, some (.long v2), none, some (.int v4), none, none] [] M := by
  unfold b_X8_greatestDivisor_L3 at hf
  refine G_iload h dX8_greatestDivisor_3 rfl rfl ?_
  refine G_bipush h dX8_greatestDivisor_5 kb_100 rfl ?_
  refine G_icmp_ge h dX8_greatestDivisor_7 (tgt := 32) (by decide) rfl (fun c1 => ?_) (fun c1 => ?_)
  · have hf := it_t c1 hf
    refine G_lload_n h dX8_greatestDivisor_32 (i := 0) rfl rfl rfl ?_
    exact roL hR dX8_greatestDivisor_33 hf
  · have hf := it_f c1 hf
    refine G_lload_n h dX8_greatestDivisor_10 (i := 2) rfl rfl rfl ?_
    refine G_lconst h dX8_greatestDivisor_11 kl_0 rfl ?_
    refine G_lcmp h dX8_greatestDivisor_12 rfl ?_
    refine G_if_eq h dX8_greatestDivisor_13 (tgt := 32) (by decide) rfl (fun c2 => ?_) (fun c2 => ?_)
    · have hf := it_t c2 hf
      refine G_lload_n h dX8_greatestDivisor_32 (i := 0) rfl rfl rfl ?_
      exact roL hR dX8_greatestDivisor_33 hf
    · have hf := it_f c2 hf
      refine G_lload_n h dX8_greatestDivisor_16 (i := 0) rfl rfl rfl ?_
      refine G_lload_n h dX8_greatestDivisor_17 (i := 2) rfl rfl rfl ?_
      obtain ⟨g3, hf⟩ := gzl_some hf
      refine G_lrem h dX8_greatestDivisor_18 g3 rfl ?_
      refine G_lstore h dX8_greatestDivisor_19  (by decide) (L' := [some (.long v0), none, some (.long v2), none, some (.int v4), some (.long (v0 - v0 / v2 * v2)), none]) rfl rfl ?_
      refine G_lload_n h dX8_greatestDivisor_21 (i := 2) rfl rfl rfl ?_
      refine G_lstore_n h dX8_greatestDivisor_22 (i := 0) rfl (by decide) (L' := [some (.long v2), none, some (.long v2), none, some (.int v4), some (.long (v0 - v0 / v2 * v2)), none]) rfl rfl ?_
      refine G_lload h dX8_greatestDivisor_23 rfl rfl ?_
      refine G_lstore_n h dX8_greatestDivisor_25 (i := 2) rfl (by decide) (L' := [some (.long v2), none, some (.long (v0 - v0 / v2 * v2)), none, some (.int v4), some (.long (v0 - v0 / v2 * v2)), none]) rfl rfl ?_
      refine G_iinc2 h dX8_greatestDivisor_26 rfl ki_1 (by decide) (L' := [some (.long v2), none, some (.long (v0 - v0 / v2 * v2)), none, some (.int (v4 + 1)), some (.long (v0 - v0 / v2 * v2)), none]) rfl rfl ?_
      refine G_goto h dX8_greatestDivisor_29 (tgt := 3) (by decide) ?_
      refine G_mskL [true, false, true, false, true, false, false] (L' := [some (.long v2), none, some (.long (v0 - v0 / v2 * v2)), none, some (.int (v4 + 1)), none, none]) rfl ?_
      exact hk3 _ _ _ hf
def f_X8_greatestDivisor_L3 (E : Env1) (M : Mem) : Nat → Int64 → Int64 → Int32 → (Option (Int64))
  | 0 => fun _ _ _ => none
  | n + 1 => b_X8_greatestDivisor_L3 E M (f_X8_greatestDivisor_L3 E M n)
theorem o_X8_greatestDivisor_L3 {X : Ctx} {l0 : Launch} {E : Env1} (h : Cx X l0 E RX8 cX8_greatestDivisor (some .long) 7 rm_X8_greatestDivisor) (hE : WF E) {M : Mem} {r : Int64} (hR : RetL X E cX8_greatestDivisor r M) : ∀ (n : Nat) (v0 : Int64) (v2 : Int64) (v4 : Int32), f_X8_greatestDivisor_L3 E M n v0 v2 v4 = some r → G X E (0, 0) 3 [some (.long v0), none, some (.long v2), none, some (.int v4), none, none] [] M := by
  intro n
  induction n with
  | zero =>
    intro _ _ _  hf
    have h0 : (none : Option (Int64)) = some r := hf
    cases h0
  | succ n ih =>
    intro _ _ _  hf
    exact ob_X8_greatestDivisor_L3 h hE hR  ih  hf
def f_X8_greatestDivisor (E : Env1) (M : Mem) (v0 : Int64) (v2 : Int64) : Option (Int64) :=
  f_X8_greatestDivisor_L3 E M FU v0 v2 (0 : Int32)
set_option maxRecDepth 100000 in
set_option maxHeartbeats 4000000 in
theorem ok_X8_greatestDivisor {E : Env1} (hE : WF E) (l0 : Launch) {M : Mem} {v0 : Int64} {v2 : Int64} {r : Int64}  (hf : f_X8_greatestDivisor E M v0 v2 = some r) : Met l0 yX8_greatestDivisor (wsA yX8_greatestDivisor cX8_greatestDivisor 7 (some .long)) rm_X8_greatestDivisor (CP E M [.long v0, .long v2]) (CQl E r M) 0 0 (eA E) := by
  unfold f_X8_greatestDivisor at hf
  refine mtL l0 (by decide +kernel) (Nat.le_of_ble_eq_true rfl) (L0 := [some (.long v0), none, some (.long v2), none, none, none, none]) rfl (fun X h hR => ?_)
  refine G_iconst h dX8_greatestDivisor_0 ki_0 rfl ?_
  refine G_istore h dX8_greatestDivisor_1  (by decide) (L' := [some (.long v0), none, some (.long v2), none, some (.int (0 : Int32)), none, none]) rfl rfl ?_
  exact o_X8_greatestDivisor_L3 h hE hR  FU _ _ _ hf
def rm_X8_hears : Room := { frames := 2, cells := 0, slots := 0, locals := 43 }
def b_X8_hears_L41 (E : Env1) (k41 : Mem → Nat → Int32 → Int32 → Int32 → (Option (Int32 × Mem))) (M : Mem) (v0 : Nat) (v2 : Int32) (v3 : Int32) (v4 : Int32) : Option (Int32 × Mem) :=
  if (60 : Int32) < v4 then (some ((-1 : Int32), M))
  else (
    if ((v3 >>> (v2 &&& 31)) &&& (1 : Int32)) = (1 : Int32) then (some (v4, M))
    else (
      (f_X5_toldOn E M (rr E (rr E v0 0) 3) v3).bind fun x3 =>
      k41 M v0 v2 x3 (v4 + 1)))
set_option maxRecDepth 100000 in
set_option maxHeartbeats 4000000 in
theorem ob_X8_hears_L41 {X : Ctx} {l0 : Launch} {E : Env1} (h : Cx X l0 E RX8 cX8_hears (some .int) 5 rm_X8_hears) (hE : WF E) {M' : Mem} {r : Int32} (hR : RetI X E cX8_hears r M') {k41 : Mem → Nat → Int32 → Int32 → Int32 → (Option (Int32 × Mem))} (hk41 : ∀ (M : Mem) (v0 : Nat) (v2 : Int32) (v3 : Int32) (v4 : Int32), isK E v0 7 → k41 M v0 v2 v3 v4 = some (r, M') → G X E (0, 0) 41 [some (.ref v0), none, some (.int v2), some (.int v3), some (.int v4)] [] M) {M : Mem} {v0 : Nat} {v2 : Int32} {v3 : Int32} {v4 : Int32} (h_v0 : isK E v0 7) (hf : b_X8_hears_L41 E k41 M v0 v2 v3 v4 = some (r, M')) : G X E (0, 0) 41 [some (.ref v0), none, some (.int v2), some (.int v3), some (.int v4)] [] M := by
  unfold b_X8_hears_L41 at hf
  refine G_iload h dX8_hears_41 rfl rfl ?_
  refine G_bipush h dX8_hears_43 kb_60 rfl ?_
  refine G_icmp_gt h dX8_hears_45 (tgt := 78) (by decide) rfl (fun c1 => ?_) (fun c1 => ?_)
  · have hf := it_t c1 hf
    refine G_iconst h dX8_hears_78 ki_m1 rfl ?_
    exact pwI hR dX8_hears_79 hf
  · have hf := it_f c1 hf
    refine G_iload_n h dX8_hears_48 (i := 3) rfl rfl rfl ?_
    refine G_iload_n h dX8_hears_49 (i := 2) rfl rfl rfl ?_
    refine G_ishr h dX8_hears_50 rfl ?_
    refine G_iconst h dX8_hears_51 ki_1 rfl ?_
    refine G_iand h dX8_hears_52 rfl ?_
    refine G_iconst h dX8_hears_53 ki_1 rfl ?_
    refine G_icmp_ne h dX8_hears_54 (tgt := 60) (by decide) rfl (fun c2 => ?_) (fun c2 => ?_)
    · have hf := it_f c2 hf
      refine G_aload_n h dX8_hears_60 (i := 0) rfl rfl rfl ?_
      refine gf_X8_10 h hE dX8_hears_61 h_v0 rfl ?_
      refine gf_X8_98 h hE dX8_hears_64 ((w_7_0 hE h_v0).2) rfl ?_
      refine G_iload_n h dX8_hears_67 (i := 3) rfl rfl rfl ?_
      obtain ⟨x3, hx3, hf⟩ := bd hf
      refine cl_X8_190 h (ok_X5_toldOn hE _ ((w_0_3 hE ((w_7_0 hE h_v0).2)).2) hx3) dX8_hears_68 ((w_0_3 hE ((w_7_0 hE h_v0).2)).2) (as := [.int v3]) rfl rfl ⟨rfl, rfl, Nat.le_of_ble_eq_true rfl, Nat.le_of_ble_eq_true rfl⟩ rfl (Nat.le_of_ble_eq_true rfl) ?_
      refine G_istore_n h dX8_hears_71 (i := 3) rfl (by decide) (L' := [some (.ref v0), none, some (.int v2), some (.int x3), some (.int v4)]) rfl rfl ?_
      refine G_iinc2 h dX8_hears_72 rfl ki_1 (by decide) (L' := [some (.ref v0), none, some (.int v2), some (.int x3), some (.int (v4 + 1))]) rfl rfl ?_
      refine G_goto h dX8_hears_75 (tgt := 41) (by decide) ?_
      exact hk41 _ _ _ _ _ h_v0 hf
    · have hf := it_t c2 hf
      refine G_iload h dX8_hears_57 rfl rfl ?_
      exact pwI hR dX8_hears_59 hf
def f_X8_hears_L41 (E : Env1) : Nat → Mem → Nat → Int32 → Int32 → Int32 → (Option (Int32 × Mem))
  | 0 => fun _ _ _ _ _ => none
  | n + 1 => b_X8_hears_L41 E (f_X8_hears_L41 E n)
theorem o_X8_hears_L41 {X : Ctx} {l0 : Launch} {E : Env1} (h : Cx X l0 E RX8 cX8_hears (some .int) 5 rm_X8_hears) (hE : WF E) {M' : Mem} {r : Int32} (hR : RetI X E cX8_hears r M') : ∀ (n : Nat) (M : Mem) (v0 : Nat) (v2 : Int32) (v3 : Int32) (v4 : Int32), isK E v0 7 → f_X8_hears_L41 E n M v0 v2 v3 v4 = some (r, M') → G X E (0, 0) 41 [some (.ref v0), none, some (.int v2), some (.int v3), some (.int v4)] [] M := by
  intro n
  induction n with
  | zero =>
    intro _ _ _ _ _ a0 hf
    have h0 : (none : Option (Int32 × Mem)) = some (r, M') := hf
    cases h0
  | succ n ih =>
    intro _ _ _ _ _ a0 hf
    exact ob_X8_hears_L41 h hE hR  ih a0 hf
def f_X8_hears (E : Env1) (M : Mem) (v0 : Nat) (v1 : Int32) (v2 : Int32) : Option (Int32 × Mem) :=
  if (f_X0_hasPerson E M (rr E v0 0) v1) = 0 then (
    nm (f_X8_refuse E M v0 (-2 : Int32)) fun x3 =>
    some (x3.1, x3.2))
  else (
    if (f_X8_isStep E M v2) = 0 then (
      nm (f_X8_refuse E M v0 (-2 : Int32)) fun x8 =>
      some (x8.1, x8.2))
    else (
      gd v1 6 (nm (mi M (rr E (rr E (rr E v0 0) 3) 1) (ix v1)) fun x7 =>
      f_X8_hears_L41 E FU M v0 v2 x7 (0 : Int32))))
set_option maxRecDepth 100000 in
set_option maxHeartbeats 4000000 in
theorem ok_X8_hears {E : Env1} (hE : WF E) (l0 : Launch) {M : Mem} {M' : Mem} {v0 : Nat} {v1 : Int32} {v2 : Int32} {r : Int32} (h0 : isK E v0 7) (hf : f_X8_hears E M v0 v1 v2 = some (r, M')) : Met l0 yX8_hears (wsA yX8_hears cX8_hears 5 (some .int)) rm_X8_hears (CP E M [.ref v0, .int v1, .int v2]) (CQi E r M') 0 0 (eA E) := by
  unfold f_X8_hears at hf
  refine mtI l0 (by decide +kernel) (Nat.le_of_ble_eq_true rfl) (L0 := [some (.ref v0), some (.int v1), some (.int v2), none, none]) rfl (fun X h hR => ?_)
  refine G_aload_n h dX8_hears_0 (i := 0) rfl rfl rfl ?_
  refine gf_X8_10 h hE dX8_hears_1 h0 rfl ?_
  refine G_iload_n h dX8_hears_4 (i := 1) rfl rfl rfl ?_
  refine cl_X8_91 h (ok_X0_hasPerson hE _ ((w_7_0 hE h0).2) (r := f_X0_hasPerson E M (rr E v0 0) v1) rfl) dX8_hears_5 ((w_7_0 hE h0).2) (as := [.int v1]) rfl rfl ⟨rfl, rfl, Nat.le_of_ble_eq_true rfl, Nat.le_of_ble_eq_true rfl⟩ rfl (Nat.le_of_ble_eq_true rfl) (fun z1 => ?_)
  refine G_if_eq h dX8_hears_8 (tgt := 18) (by decide) rfl (fun c2 => ?_) (fun c2 => ?_)
  · have hf := it_t c2 hf
    refine G_aload_n h dX8_hears_18 (i := 0) rfl rfl rfl ?_
    refine G_bipush h dX8_hears_19 kb_m2 rfl ?_
    obtain ⟨x3, hx3⟩ : ∃ x, x = f_X8_refuse E M v0 (-2 : Int32) := ⟨_, rfl⟩
    have hf := nm_eq hx3 hf
    refine cl_X8_68 h (ok_X8_refuse hE _ h0 hx3.symm) dX8_hears_21 h0 (as := [.int (-2 : Int32)]) rfl rfl ⟨rfl, rfl, Nat.le_of_ble_eq_true rfl, Nat.le_of_ble_eq_true rfl⟩ rfl (Nat.le_of_ble_eq_true rfl) ?_
    exact pwI hR dX8_hears_24 hf
  · have hf := it_f c2 hf
    refine G_iload_n h dX8_hears_11 (i := 2) rfl rfl rfl ?_
    refine cl_X8_95 h (ok_X8_isStep hE _  (r := f_X8_isStep E M v2) rfl) dX8_hears_12 (as := [.int v2]) rfl rfl ⟨rfl, rfl, Nat.le_of_ble_eq_true rfl, Nat.le_of_ble_eq_true rfl⟩ rfl (Nat.le_of_ble_eq_true rfl) (fun z4 => ?_)
    refine G_if_ne h dX8_hears_15 (tgt := 25) (by decide) rfl (fun c5 => ?_) (fun c5 => ?_)
    · have hf := it_f c5 hf
      refine G_aload_n h dX8_hears_25 (i := 0) rfl rfl rfl ?_
      refine gf_X8_10 h hE dX8_hears_26 h0 rfl ?_
      refine gf_X8_98 h hE dX8_hears_29 ((w_7_0 hE h0).2) rfl ?_
      refine gf_X8_163 h hE dX8_hears_32 ((w_0_3 hE ((w_7_0 hE h0).2)).2) rfl ?_
      refine G_iload_n h dX8_hears_35 (i := 1) rfl rfl rfl ?_
      obtain ⟨g6, hf⟩ := gd_some hf
      refine G_iald h dX8_hears_36 ((w_4_1 hE ((w_0_3 hE ((w_7_0 hE h0).2)).2)).2) g6 (jx := (ix v1)) rfl rfl ?_
      refine G_nmi (fun x7 hx7 => ?_)
      have hf := nm_eq hx7 hf
      refine G_istore_n h dX8_hears_37 (i := 3) rfl (by decide) (L' := [some (.ref v0), some (.int v1), some (.int v2), some (.int x7), none]) rfl rfl ?_
      refine G_iconst h dX8_hears_38 ki_0 rfl ?_
      refine G_istore h dX8_hears_39  (by decide) (L' := [some (.ref v0), some (.int v1), some (.int v2), some (.int x7), some (.int (0 : Int32))]) rfl rfl ?_
      refine G_mskL [true, false, true, true, true] (L' := [some (.ref v0), none, some (.int v2), some (.int x7), some (.int (0 : Int32))]) rfl ?_
      exact o_X8_hears_L41 h hE hR  FU _ _ _ _ _ h0 hf
    · have hf := it_t c5 hf
      refine G_aload_n h dX8_hears_18 (i := 0) rfl rfl rfl ?_
      refine G_bipush h dX8_hears_19 kb_m2 rfl ?_
      obtain ⟨x8, hx8⟩ : ∃ x, x = f_X8_refuse E M v0 (-2 : Int32) := ⟨_, rfl⟩
      have hf := nm_eq hx8 hf
      refine cl_X8_68 h (ok_X8_refuse hE _ h0 hx8.symm) dX8_hears_21 h0 (as := [.int (-2 : Int32)]) rfl rfl ⟨rfl, rfl, Nat.le_of_ble_eq_true rfl, Nat.le_of_ble_eq_true rfl⟩ rfl (Nat.le_of_ble_eq_true rfl) ?_
      exact pwI hR dX8_hears_24 hf
def rm_X8_high : Room := { frames := 3, cells := 0, slots := 0, locals := 66 }
def f_X8_high (E : Env1) (M : Mem) (v0 : Nat) (v1 : Int32) : Option (Int32 × Mem) :=
  if (f_X0_hasPerson E M (rr E v0 0) v1) = 0 then (
    nm (f_X8_refusePlace E M v0) fun x4 =>
    some (x4.1, x4.2))
  else (
    (f_X5_highest E M (rr E (rr E v0 0) 3) v1).bind fun x3 =>
    some (x3, M))
set_option maxRecDepth 100000 in
set_option maxHeartbeats 4000000 in
theorem ok_X8_high {E : Env1} (hE : WF E) (l0 : Launch) {M : Mem} {M' : Mem} {v0 : Nat} {v1 : Int32} {r : Int32} (h0 : isK E v0 7) (hf : f_X8_high E M v0 v1 = some (r, M')) : Met l0 yX8_high (wsA yX8_high cX8_high 2 (some .int)) rm_X8_high (CP E M [.ref v0, .int v1]) (CQi E r M') 0 0 (eA E) := by
  unfold f_X8_high at hf
  refine mtI l0 (by decide +kernel) (Nat.le_of_ble_eq_true rfl) (L0 := [some (.ref v0), some (.int v1)]) rfl (fun X h hR => ?_)
  refine G_aload_n h dX8_high_0 (i := 0) rfl rfl rfl ?_
  refine gf_X8_10 h hE dX8_high_1 h0 rfl ?_
  refine G_iload_n h dX8_high_4 (i := 1) rfl rfl rfl ?_
  refine cl_X8_91 h (ok_X0_hasPerson hE _ ((w_7_0 hE h0).2) (r := f_X0_hasPerson E M (rr E v0 0) v1) rfl) dX8_high_5 ((w_7_0 hE h0).2) (as := [.int v1]) rfl rfl ⟨rfl, rfl, Nat.le_of_ble_eq_true rfl, Nat.le_of_ble_eq_true rfl⟩ rfl (Nat.le_of_ble_eq_true rfl) (fun z1 => ?_)
  refine G_if_ne h dX8_high_8 (tgt := 16) (by decide) rfl (fun c2 => ?_) (fun c2 => ?_)
  · have hf := it_f c2 hf
    refine G_aload_n h dX8_high_16 (i := 0) rfl rfl rfl ?_
    refine gf_X8_10 h hE dX8_high_17 h0 rfl ?_
    refine gf_X8_98 h hE dX8_high_20 ((w_7_0 hE h0).2) rfl ?_
    refine G_iload_n h dX8_high_23 (i := 1) rfl rfl rfl ?_
    obtain ⟨x3, hx3, hf⟩ := bd hf
    refine cl_X8_187 h (ok_X5_highest hE _ ((w_0_3 hE ((w_7_0 hE h0).2)).2) hx3) dX8_high_24 ((w_0_3 hE ((w_7_0 hE h0).2)).2) (as := [.int v1]) rfl rfl ⟨rfl, rfl, Nat.le_of_ble_eq_true rfl, Nat.le_of_ble_eq_true rfl⟩ rfl (Nat.le_of_ble_eq_true rfl) ?_
    exact pwI hR dX8_high_27 hf
  · have hf := it_t c2 hf
    refine G_aload_n h dX8_high_11 (i := 0) rfl rfl rfl ?_
    obtain ⟨x4, hx4⟩ : ∃ x, x = f_X8_refusePlace E M v0 := ⟨_, rfl⟩
    have hf := nm_eq hx4 hf
    refine cl_X8_117 h (ok_X8_refusePlace hE _ h0 hx4.symm) dX8_high_12 h0 (as := []) rfl rfl ⟨rfl, rfl, Nat.le_of_ble_eq_true rfl, Nat.le_of_ble_eq_true rfl⟩ rfl (Nat.le_of_ble_eq_true rfl) ?_
    exact pwI hR dX8_high_15 hf
def rm_X8_hosts : Room := { frames := 6, cells := 0, slots := 0, locals := 151 }
def f_X8_hosts (E : Env1) (M : Mem) (v0 : Nat) (v1 : Int32) (v2 : Int32) (v3 : Int32) (v4 : Int32) : Option (Int32 × Mem) :=
  if (f_X0_hasPerson E M (rr E v0 0) v1) = 0 then (
    nm (f_X8_refuse E M v0 (-2 : Int32)) fun x3 =>
    some (x3.1, x3.2))
  else (
    if (f_X0_hasPerson E M (rr E v0 0) v2) = 0 then (
      nm (f_X8_refuse E M v0 (-2 : Int32)) fun x6 =>
      some (x6.1, x6.2))
    else (
      if (f_X0_hasPerson E M (rr E v0 0) v3) = 0 then (
        nm (f_X8_refuse E M v0 (-2 : Int32)) fun x9 =>
        some (x9.1, x9.2))
      else (
        if (f_X8_isStep E M v4) = 0 then (
          nm (f_X8_refuse E M v0 (-2 : Int32)) fun x27 =>
          some (x27.1, x27.2))
        else (
          if v1 = v2 then (
            nm (f_X8_refuse E M v0 (-2 : Int32)) fun x13 =>
            some (x13.1, x13.2))
          else (
            if v1 = v3 then (
              nm (f_X8_refuse E M v0 (-2 : Int32)) fun x15 =>
              some (x15.1, x15.2))
            else (
              if v2 = v3 then (
                nm (f_X8_refuse E M v0 (-2 : Int32)) fun x26 =>
                some (x26.1, x26.2))
              else (
                (f_X5_isKnown E M (rr E (rr E v0 0) 3) v1 v4).bind fun x18 =>
                if x18 = 0 then (
                  nm (f_X8_refuse E M v0 (-3 : Int32)) fun x20 =>
                  some (x20.1, x20.2))
                else (
                  (f_X5_isKnown E M (rr E (rr E v0 0) 3) v2 v4).bind fun x22 =>
                  if x22 = 0 then (
                    nm (f_X8_refuse E M v0 (-3 : Int32)) fun x25 =>
                    some (x25.1, x25.2))
                  else (
                    (f_X0_restingPairs E M (rr E v0 0) v1 v2 v3 v4).bind fun x24 =>
                    some (x24, M))))))))))
set_option maxRecDepth 100000 in
set_option maxHeartbeats 4000000 in
theorem ok_X8_hosts {E : Env1} (hE : WF E) (l0 : Launch) {M : Mem} {M' : Mem} {v0 : Nat} {v1 : Int32} {v2 : Int32} {v3 : Int32} {v4 : Int32} {r : Int32} (h0 : isK E v0 7) (hf : f_X8_hosts E M v0 v1 v2 v3 v4 = some (r, M')) : Met l0 yX8_hosts (wsA yX8_hosts cX8_hosts 5 (some .int)) rm_X8_hosts (CP E M [.ref v0, .int v1, .int v2, .int v3, .int v4]) (CQi E r M') 0 0 (eA E) := by
  unfold f_X8_hosts at hf
  refine mtI l0 (by decide +kernel) (Nat.le_of_ble_eq_true rfl) (L0 := [some (.ref v0), some (.int v1), some (.int v2), some (.int v3), some (.int v4)]) rfl (fun X h hR => ?_)
  refine G_aload_n h dX8_hosts_0 (i := 0) rfl rfl rfl ?_
  refine gf_X8_10 h hE dX8_hosts_1 h0 rfl ?_
  refine G_iload_n h dX8_hosts_4 (i := 1) rfl rfl rfl ?_
  refine cl_X8_91 h (ok_X0_hasPerson hE _ ((w_7_0 hE h0).2) (r := f_X0_hasPerson E M (rr E v0 0) v1) rfl) dX8_hosts_5 ((w_7_0 hE h0).2) (as := [.int v1]) rfl rfl ⟨rfl, rfl, Nat.le_of_ble_eq_true rfl, Nat.le_of_ble_eq_true rfl⟩ rfl (Nat.le_of_ble_eq_true rfl) (fun z1 => ?_)
  refine G_if_eq h dX8_hosts_8 (tgt := 41) (by decide) rfl (fun c2 => ?_) (fun c2 => ?_)
  · have hf := it_t c2 hf
    refine G_aload_n h dX8_hosts_41 (i := 0) rfl rfl rfl ?_
    refine G_bipush h dX8_hosts_42 kb_m2 rfl ?_
    obtain ⟨x3, hx3⟩ : ∃ x, x = f_X8_refuse E M v0 (-2 : Int32) := ⟨_, rfl⟩
    have hf := nm_eq hx3 hf
    refine cl_X8_68 h (ok_X8_refuse hE _ h0 hx3.symm) dX8_hosts_44 h0 (as := [.int (-2 : Int32)]) rfl rfl ⟨rfl, rfl, Nat.le_of_ble_eq_true rfl, Nat.le_of_ble_eq_true rfl⟩ rfl (Nat.le_of_ble_eq_true rfl) ?_
    exact pwI hR dX8_hosts_47 hf
  · have hf := it_f c2 hf
    refine G_aload_n h dX8_hosts_11 (i := 0) rfl rfl rfl ?_
    refine gf_X8_10 h hE dX8_hosts_12 h0 rfl ?_
    refine G_iload_n h dX8_hosts_15 (i := 2) rfl rfl rfl ?_
    refine cl_X8_91 h (ok_X0_hasPerson hE _ ((w_7_0 hE h0).2) (r := f_X0_hasPerson E M (rr E v0 0) v2) rfl) dX8_hosts_16 ((w_7_0 hE h0).2) (as := [.int v2]) rfl rfl ⟨rfl, rfl, Nat.le_of_ble_eq_true rfl, Nat.le_of_ble_eq_true rfl⟩ rfl (Nat.le_of_ble_eq_true rfl) (fun z4 => ?_)
    refine G_if_eq h dX8_hosts_19 (tgt := 41) (by decide) rfl (fun c5 => ?_) (fun c5 => ?_)
    · have hf := it_t c5 hf
      refine G_aload_n h dX8_hosts_41 (i := 0) rfl rfl rfl ?_
      refine G_bipush h dX8_hosts_42 kb_m2 rfl ?_
      obtain ⟨x6, hx6⟩ : ∃ x, x = f_X8_refuse E M v0 (-2 : Int32) := ⟨_, rfl⟩
      have hf := nm_eq hx6 hf
      refine cl_X8_68 h (ok_X8_refuse hE _ h0 hx6.symm) dX8_hosts_44 h0 (as := [.int (-2 : Int32)]) rfl rfl ⟨rfl, rfl, Nat.le_of_ble_eq_true rfl, Nat.le_of_ble_eq_true rfl⟩ rfl (Nat.le_of_ble_eq_true rfl) ?_
      exact pwI hR dX8_hosts_47 hf
    · have hf := it_f c5 hf
      refine G_aload_n h dX8_hosts_22 (i := 0) rfl rfl rfl ?_
      refine gf_X8_10 h hE dX8_hosts_23 h0 rfl ?_
      refine G_iload_n h dX8_hosts_26 (i := 3) rfl rfl rfl ?_
      refine cl_X8_91 h (ok_X0_hasPerson hE _ ((w_7_0 hE h0).2) (r := f_X0_hasPerson E M (rr E v0 0) v3) rfl) dX8_hosts_27 ((w_7_0 hE h0).2) (as := [.int v3]) rfl rfl ⟨rfl, rfl, Nat.le_of_ble_eq_true rfl, Nat.le_of_ble_eq_true rfl⟩ rfl (Nat.le_of_ble_eq_true rfl) (fun z7 => ?_)
      refine G_if_eq h dX8_hosts_30 (tgt := 41) (by decide) rfl (fun c8 => ?_) (fun c8 => ?_)
      · have hf := it_t c8 hf
        refine G_aload_n h dX8_hosts_41 (i := 0) rfl rfl rfl ?_
        refine G_bipush h dX8_hosts_42 kb_m2 rfl ?_
        obtain ⟨x9, hx9⟩ : ∃ x, x = f_X8_refuse E M v0 (-2 : Int32) := ⟨_, rfl⟩
        have hf := nm_eq hx9 hf
        refine cl_X8_68 h (ok_X8_refuse hE _ h0 hx9.symm) dX8_hosts_44 h0 (as := [.int (-2 : Int32)]) rfl rfl ⟨rfl, rfl, Nat.le_of_ble_eq_true rfl, Nat.le_of_ble_eq_true rfl⟩ rfl (Nat.le_of_ble_eq_true rfl) ?_
        exact pwI hR dX8_hosts_47 hf
      · have hf := it_f c8 hf
        refine G_iload h dX8_hosts_33 rfl rfl ?_
        refine cl_X8_95 h (ok_X8_isStep hE _  (r := f_X8_isStep E M v4) rfl) dX8_hosts_35 (as := [.int v4]) rfl rfl ⟨rfl, rfl, Nat.le_of_ble_eq_true rfl, Nat.le_of_ble_eq_true rfl⟩ rfl (Nat.le_of_ble_eq_true rfl) (fun z10 => ?_)
        refine G_if_ne h dX8_hosts_38 (tgt := 48) (by decide) rfl (fun c11 => ?_) (fun c11 => ?_)
        · have hf := it_f c11 hf
          refine G_iload_n h dX8_hosts_48 (i := 1) rfl rfl rfl ?_
          refine G_iload_n h dX8_hosts_49 (i := 2) rfl rfl rfl ?_
          refine G_icmp_eq h dX8_hosts_50 (tgt := 63) (by decide) rfl (fun c12 => ?_) (fun c12 => ?_)
          · have hf := it_t c12 hf
            refine G_aload_n h dX8_hosts_63 (i := 0) rfl rfl rfl ?_
            refine G_bipush h dX8_hosts_64 kb_m2 rfl ?_
            obtain ⟨x13, hx13⟩ : ∃ x, x = f_X8_refuse E M v0 (-2 : Int32) := ⟨_, rfl⟩
            have hf := nm_eq hx13 hf
            refine cl_X8_68 h (ok_X8_refuse hE _ h0 hx13.symm) dX8_hosts_66 h0 (as := [.int (-2 : Int32)]) rfl rfl ⟨rfl, rfl, Nat.le_of_ble_eq_true rfl, Nat.le_of_ble_eq_true rfl⟩ rfl (Nat.le_of_ble_eq_true rfl) ?_
            exact pwI hR dX8_hosts_69 hf
          · have hf := it_f c12 hf
            refine G_iload_n h dX8_hosts_53 (i := 1) rfl rfl rfl ?_
            refine G_iload_n h dX8_hosts_54 (i := 3) rfl rfl rfl ?_
            refine G_icmp_eq h dX8_hosts_55 (tgt := 63) (by decide) rfl (fun c14 => ?_) (fun c14 => ?_)
            · have hf := it_t c14 hf
              refine G_aload_n h dX8_hosts_63 (i := 0) rfl rfl rfl ?_
              refine G_bipush h dX8_hosts_64 kb_m2 rfl ?_
              obtain ⟨x15, hx15⟩ : ∃ x, x = f_X8_refuse E M v0 (-2 : Int32) := ⟨_, rfl⟩
              have hf := nm_eq hx15 hf
              refine cl_X8_68 h (ok_X8_refuse hE _ h0 hx15.symm) dX8_hosts_66 h0 (as := [.int (-2 : Int32)]) rfl rfl ⟨rfl, rfl, Nat.le_of_ble_eq_true rfl, Nat.le_of_ble_eq_true rfl⟩ rfl (Nat.le_of_ble_eq_true rfl) ?_
              exact pwI hR dX8_hosts_69 hf
            · have hf := it_f c14 hf
              refine G_iload_n h dX8_hosts_58 (i := 2) rfl rfl rfl ?_
              refine G_iload_n h dX8_hosts_59 (i := 3) rfl rfl rfl ?_
              refine G_icmp_ne h dX8_hosts_60 (tgt := 70) (by decide) rfl (fun c16 => ?_) (fun c16 => ?_)
              · have hf := it_f c16 hf
                refine G_aload_n h dX8_hosts_70 (i := 0) rfl rfl rfl ?_
                refine gf_X8_10 h hE dX8_hosts_71 h0 rfl ?_
                refine gf_X8_98 h hE dX8_hosts_74 ((w_7_0 hE h0).2) rfl ?_
                refine G_iload_n h dX8_hosts_77 (i := 1) rfl rfl rfl ?_
                refine G_iload h dX8_hosts_78 rfl rfl ?_
                obtain ⟨x18, hx18, hf⟩ := bd hf
                refine cl_X8_102 h (ok_X5_isKnown hE _ ((w_0_3 hE ((w_7_0 hE h0).2)).2) hx18) dX8_hosts_80 ((w_0_3 hE ((w_7_0 hE h0).2)).2) (as := [.int v1, .int v4]) rfl rfl ⟨rfl, rfl, Nat.le_of_ble_eq_true rfl, Nat.le_of_ble_eq_true rfl⟩ rfl (Nat.le_of_ble_eq_true rfl) (fun z17 => ?_)
                refine G_if_eq h dX8_hosts_83 (tgt := 102) (by decide) rfl (fun c19 => ?_) (fun c19 => ?_)
                · have hf := it_t c19 hf
                  refine G_aload_n h dX8_hosts_102 (i := 0) rfl rfl rfl ?_
                  refine G_bipush h dX8_hosts_103 kb_m3 rfl ?_
                  obtain ⟨x20, hx20⟩ : ∃ x, x = f_X8_refuse E M v0 (-3 : Int32) := ⟨_, rfl⟩
                  have hf := nm_eq hx20 hf
                  refine cl_X8_68 h (ok_X8_refuse hE _ h0 hx20.symm) dX8_hosts_105 h0 (as := [.int (-3 : Int32)]) rfl rfl ⟨rfl, rfl, Nat.le_of_ble_eq_true rfl, Nat.le_of_ble_eq_true rfl⟩ rfl (Nat.le_of_ble_eq_true rfl) ?_
                  exact pwI hR dX8_hosts_108 hf
                · have hf := it_f c19 hf
                  refine G_aload_n h dX8_hosts_86 (i := 0) rfl rfl rfl ?_
                  refine gf_X8_10 h hE dX8_hosts_87 h0 rfl ?_
                  refine gf_X8_98 h hE dX8_hosts_90 ((w_7_0 hE h0).2) rfl ?_
                  refine G_iload_n h dX8_hosts_93 (i := 2) rfl rfl rfl ?_
                  refine G_iload h dX8_hosts_94 rfl rfl ?_
                  obtain ⟨x22, hx22, hf⟩ := bd hf
                  refine cl_X8_102 h (ok_X5_isKnown hE _ ((w_0_3 hE ((w_7_0 hE h0).2)).2) hx22) dX8_hosts_96 ((w_0_3 hE ((w_7_0 hE h0).2)).2) (as := [.int v2, .int v4]) rfl rfl ⟨rfl, rfl, Nat.le_of_ble_eq_true rfl, Nat.le_of_ble_eq_true rfl⟩ rfl (Nat.le_of_ble_eq_true rfl) (fun z21 => ?_)
                  refine G_if_ne h dX8_hosts_99 (tgt := 109) (by decide) rfl (fun c23 => ?_) (fun c23 => ?_)
                  · have hf := it_f c23 hf
                    refine G_aload_n h dX8_hosts_109 (i := 0) rfl rfl rfl ?_
                    refine gf_X8_10 h hE dX8_hosts_110 h0 rfl ?_
                    refine G_iload_n h dX8_hosts_113 (i := 1) rfl rfl rfl ?_
                    refine G_iload_n h dX8_hosts_114 (i := 2) rfl rfl rfl ?_
                    refine G_iload_n h dX8_hosts_115 (i := 3) rfl rfl rfl ?_
                    refine G_iload h dX8_hosts_116 rfl rfl ?_
                    obtain ⟨x24, hx24, hf⟩ := bd hf
                    refine cl_X8_243 h (ok_X0_restingPairs hE _ ((w_7_0 hE h0).2) hx24) dX8_hosts_118 ((w_7_0 hE h0).2) (as := [.int v1, .int v2, .int v3, .int v4]) rfl rfl ⟨rfl, rfl, Nat.le_of_ble_eq_true rfl, Nat.le_of_ble_eq_true rfl⟩ rfl (Nat.le_of_ble_eq_true rfl) ?_
                    exact pwI hR dX8_hosts_121 hf
                  · have hf := it_t c23 hf
                    refine G_aload_n h dX8_hosts_102 (i := 0) rfl rfl rfl ?_
                    refine G_bipush h dX8_hosts_103 kb_m3 rfl ?_
                    obtain ⟨x25, hx25⟩ : ∃ x, x = f_X8_refuse E M v0 (-3 : Int32) := ⟨_, rfl⟩
                    have hf := nm_eq hx25 hf
                    refine cl_X8_68 h (ok_X8_refuse hE _ h0 hx25.symm) dX8_hosts_105 h0 (as := [.int (-3 : Int32)]) rfl rfl ⟨rfl, rfl, Nat.le_of_ble_eq_true rfl, Nat.le_of_ble_eq_true rfl⟩ rfl (Nat.le_of_ble_eq_true rfl) ?_
                    exact pwI hR dX8_hosts_108 hf
              · have hf := it_t c16 hf
                refine G_aload_n h dX8_hosts_63 (i := 0) rfl rfl rfl ?_
                refine G_bipush h dX8_hosts_64 kb_m2 rfl ?_
                obtain ⟨x26, hx26⟩ : ∃ x, x = f_X8_refuse E M v0 (-2 : Int32) := ⟨_, rfl⟩
                have hf := nm_eq hx26 hf
                refine cl_X8_68 h (ok_X8_refuse hE _ h0 hx26.symm) dX8_hosts_66 h0 (as := [.int (-2 : Int32)]) rfl rfl ⟨rfl, rfl, Nat.le_of_ble_eq_true rfl, Nat.le_of_ble_eq_true rfl⟩ rfl (Nat.le_of_ble_eq_true rfl) ?_
                exact pwI hR dX8_hosts_69 hf
        · have hf := it_t c11 hf
          refine G_aload_n h dX8_hosts_41 (i := 0) rfl rfl rfl ?_
          refine G_bipush h dX8_hosts_42 kb_m2 rfl ?_
          obtain ⟨x27, hx27⟩ : ∃ x, x = f_X8_refuse E M v0 (-2 : Int32) := ⟨_, rfl⟩
          have hf := nm_eq hx27 hf
          refine cl_X8_68 h (ok_X8_refuse hE _ h0 hx27.symm) dX8_hosts_44 h0 (as := [.int (-2 : Int32)]) rfl rfl ⟨rfl, rfl, Nat.le_of_ble_eq_true rfl, Nat.le_of_ble_eq_true rfl⟩ rfl (Nat.le_of_ble_eq_true rfl) ?_
          exact pwI hR dX8_hosts_47 hf
def rm_X8_house : Room := { frames := 2, cells := 0, slots := 0, locals := 41 }
def f_X8_house (E : Env1) (M : Mem) (v0 : Nat) : Option (Int32 × Mem) :=
  (f_X0_empty E M (rr E v0 0)).bind fun x1 =>
  some (mi M (rr E v0 0) 0, x1)
set_option maxRecDepth 100000 in
set_option maxHeartbeats 4000000 in
theorem ok_X8_house {E : Env1} (hE : WF E) (l0 : Launch) {M : Mem} {M' : Mem} {v0 : Nat} {r : Int32} (h0 : isK E v0 7) (hf : f_X8_house E M v0 = some (r, M')) : Met l0 yX8_house (wsA yX8_house cX8_house 2 (some .int)) rm_X8_house (CP E M [.ref v0]) (CQi E r M') 0 0 (eA E) := by
  unfold f_X8_house at hf
  refine mtI l0 (by decide +kernel) (Nat.le_of_ble_eq_true rfl) (L0 := [some (.ref v0), none]) rfl (fun X h hR => ?_)
  refine G_aload_n h dX8_house_0 (i := 0) rfl rfl rfl ?_
  refine gf_X8_10 h hE dX8_house_1 h0 rfl ?_
  refine gf_X8_58 h dX8_house_4 ((w_7_0 hE h0).2) rfl ?_
  refine G_istore_n h dX8_house_7 (i := 1) rfl (by decide) (L' := [some (.ref v0), some (.int (mi M (rr E v0 0) 0))]) rfl rfl ?_
  refine G_aload_n h dX8_house_8 (i := 0) rfl rfl rfl ?_
  refine gf_X8_10 h hE dX8_house_9 h0 rfl ?_
  obtain ⟨x1, hx1, hf⟩ := bd hf
  refine cl_X8_61 h (ok_X0_empty hE _ ((w_7_0 hE h0).2) hx1) dX8_house_12 ((w_7_0 hE h0).2) (as := []) rfl rfl ⟨rfl, rfl, Nat.le_of_ble_eq_true rfl, Nat.le_of_ble_eq_true rfl⟩ rfl (Nat.le_of_ble_eq_true rfl) ?_
  refine G_iload_n h dX8_house_15 (i := 1) rfl rfl rfl ?_
  exact pwI hR dX8_house_16 hf
def rm_X8_image : Room := { frames := 3, cells := 0, slots := 0, locals := 66 }
def f_X8_image (E : Env1) (M : Mem) (v0 : Nat) (v1 : Int32) : Option (Int32 × Mem) :=
  if (f_X8_within E M v1 (0 : Int32) (1 : Int32)) = 0 then (
    nm (f_X8_refuse E M v0 (-2 : Int32)) fun x6 =>
    some (x6.1, x6.2))
  else (
    gd v1 2 ((f_X0_copyFrom E M (rr E (rr E v0 2) (ix v1)) (rr E v0 0)).bind fun x5 =>
    some ((1 : Int32), wi x5 (rr E v0 3) (ix v1) (vp_nar .boolean (1 : Int32)))))
set_option maxRecDepth 100000 in
set_option maxHeartbeats 4000000 in
theorem ok_X8_image {E : Env1} (hE : WF E) (l0 : Launch) {M : Mem} {M' : Mem} {v0 : Nat} {v1 : Int32} {r : Int32} (h0 : isK E v0 7) (hf : f_X8_image E M v0 v1 = some (r, M')) : Met l0 yX8_image (wsA yX8_image cX8_image 2 (some .int)) rm_X8_image (CP E M [.ref v0, .int v1]) (CQi E r M') 0 0 (eA E) := by
  unfold f_X8_image at hf
  refine mtI l0 (by decide +kernel) (Nat.le_of_ble_eq_true rfl) (L0 := [some (.ref v0), some (.int v1)]) rfl (fun X h hR => ?_)
  refine G_iload_n h dX8_image_0 (i := 1) rfl rfl rfl ?_
  refine G_iconst h dX8_image_1 ki_0 rfl ?_
  refine G_iconst h dX8_image_2 ki_1 rfl ?_
  refine cl_X8_64 h (ok_X8_within hE _  (r := f_X8_within E M v1 (0 : Int32) (1 : Int32)) rfl) dX8_image_3 (as := [.int v1, .int (0 : Int32), .int (1 : Int32)]) rfl rfl ⟨rfl, rfl, Nat.le_of_ble_eq_true rfl, Nat.le_of_ble_eq_true rfl⟩ rfl (Nat.le_of_ble_eq_true rfl) (fun z1 => ?_)
  refine G_if_ne h dX8_image_6 (tgt := 16) (by decide) rfl (fun c2 => ?_) (fun c2 => ?_)
  · have hf := it_f c2 hf
    refine G_aload_n h dX8_image_16 (i := 0) rfl rfl rfl ?_
    refine gf_X8_19 h hE dX8_image_17 h0 rfl ?_
    refine G_iload_n h dX8_image_20 (i := 1) rfl rfl rfl ?_
    obtain ⟨g3, hf⟩ := gd_some hf
    refine G_aldH h hE dX8_image_21 ((w_7_2 hE h0).2) g3 (jx := (ix v1)) rfl rfl (fun hs4 => ?_)
    refine G_aload_n h dX8_image_22 (i := 0) rfl rfl rfl ?_
    refine gf_X8_10 h hE dX8_image_23 h0 rfl ?_
    obtain ⟨x5, hx5, hf⟩ := bd hf
    refine cl_X8_87 h (ok_X0_copyFrom hE _ hs4 ((w_7_0 hE h0).2) hx5) dX8_image_26 hs4 (as := [.ref (rr E v0 0)]) rfl rfl ⟨rfl, rfl, Nat.le_of_ble_eq_true rfl, Nat.le_of_ble_eq_true rfl⟩ rfl (Nat.le_of_ble_eq_true rfl) ?_
    refine G_aload_n h dX8_image_29 (i := 0) rfl rfl rfl ?_
    refine gf_X8_23 h hE dX8_image_30 h0 rfl ?_
    refine G_iload_n h dX8_image_33 (i := 1) rfl rfl rfl ?_
    refine G_iconst h dX8_image_34 ki_1 rfl ?_
    refine G_zast h dX8_image_35 ((w_7_3 hE h0).2) g3 (jx := (ix v1)) rfl rfl ?_
    refine G_iconst h dX8_image_36 ki_1 rfl ?_
    exact pwI hR dX8_image_37 hf
  · have hf := it_t c2 hf
    refine G_aload_n h dX8_image_9 (i := 0) rfl rfl rfl ?_
    refine G_bipush h dX8_image_10 kb_m2 rfl ?_
    obtain ⟨x6, hx6⟩ : ∃ x, x = f_X8_refuse E M v0 (-2 : Int32) := ⟨_, rfl⟩
    have hf := nm_eq hx6 hf
    refine cl_X8_68 h (ok_X8_refuse hE _ h0 hx6.symm) dX8_image_12 h0 (as := [.int (-2 : Int32)]) rfl rfl ⟨rfl, rfl, Nat.le_of_ble_eq_true rfl, Nat.le_of_ble_eq_true rfl⟩ rfl (Nat.le_of_ble_eq_true rfl) ?_
    exact pwI hR dX8_image_15 hf
def rm_X8_is : Room := { frames := 4, cells := 0, slots := 0, locals := 96 }
def f_X8_is (E : Env1) (M : Mem) (v0 : Nat) (v1 : Int32) : Option (Int32 × Mem) :=
  if (f_X8_isStep E M v1) = 0 then (
    nm (f_X8_refuse E M v0 (-2 : Int32)) fun x4 =>
    some (x4.1, x4.2))
  else (
    (f_X1_fitting_k5 E M (rr E (rr E v0 0) 9) (rr E (rr E v0 0) 7) v1).bind fun x3 =>
    some (x3, M))
set_option maxRecDepth 100000 in
set_option maxHeartbeats 4000000 in
theorem ok_X8_is {E : Env1} (hE : WF E) (l0 : Launch) {M : Mem} {M' : Mem} {v0 : Nat} {v1 : Int32} {r : Int32} (h0 : isK E v0 7) (hf : f_X8_is E M v0 v1 = some (r, M')) : Met l0 yX8_is (wsA yX8_is cX8_is 2 (some .int)) rm_X8_is (CP E M [.ref v0, .int v1]) (CQi E r M') 0 0 (eA E) := by
  unfold f_X8_is at hf
  refine mtI l0 (by decide +kernel) (Nat.le_of_ble_eq_true rfl) (L0 := [some (.ref v0), some (.int v1)]) rfl (fun X h hR => ?_)
  refine G_iload_n h dX8_is_0 (i := 1) rfl rfl rfl ?_
  refine cl_X8_95 h (ok_X8_isStep hE _  (r := f_X8_isStep E M v1) rfl) dX8_is_1 (as := [.int v1]) rfl rfl ⟨rfl, rfl, Nat.le_of_ble_eq_true rfl, Nat.le_of_ble_eq_true rfl⟩ rfl (Nat.le_of_ble_eq_true rfl) (fun z1 => ?_)
  refine G_if_ne h dX8_is_4 (tgt := 14) (by decide) rfl (fun c2 => ?_) (fun c2 => ?_)
  · have hf := it_f c2 hf
    refine G_aload_n h dX8_is_14 (i := 0) rfl rfl rfl ?_
    refine gf_X8_10 h hE dX8_is_15 h0 rfl ?_
    refine gf_X8_222 h hE dX8_is_18 ((w_7_0 hE h0).2) rfl ?_
    refine G_aload_n h dX8_is_21 (i := 0) rfl rfl rfl ?_
    refine gf_X8_10 h hE dX8_is_22 h0 rfl ?_
    refine gf_X8_211 h hE dX8_is_25 ((w_7_0 hE h0).2) rfl ?_
    refine G_iload_n h dX8_is_28 (i := 1) rfl rfl rfl ?_
    obtain ⟨x3, hx3, hf⟩ := bd hf
    refine cl_X8_226_k5 h (ok_X1_fitting_k5 hE _ ((w_0_9 hE ((w_7_0 hE h0).2)).2) ((w_0_7 hE ((w_7_0 hE h0).2)).2) hx3) dX8_is_29 ((w_0_9 hE ((w_7_0 hE h0).2)).2) (as := [.ref (rr E (rr E v0 0) 7), .int v1]) rfl rfl ⟨rfl, rfl, Nat.le_of_ble_eq_true rfl, Nat.le_of_ble_eq_true rfl⟩ rfl (Nat.le_of_ble_eq_true rfl) ?_
    exact pwI hR dX8_is_32 hf
  · have hf := it_t c2 hf
    refine G_aload_n h dX8_is_7 (i := 0) rfl rfl rfl ?_
    refine G_bipush h dX8_is_8 kb_m2 rfl ?_
    obtain ⟨x4, hx4⟩ : ∃ x, x = f_X8_refuse E M v0 (-2 : Int32) := ⟨_, rfl⟩
    have hf := nm_eq hx4 hf
    refine cl_X8_68 h (ok_X8_refuse hE _ h0 hx4.symm) dX8_is_10 h0 (as := [.int (-2 : Int32)]) rfl rfl ⟨rfl, rfl, Nat.le_of_ble_eq_true rfl, Nat.le_of_ble_eq_true rfl⟩ rfl (Nat.le_of_ble_eq_true rfl) ?_
    exact pwI hR dX8_is_13 hf
def rm_X8_keepFraction : Room := { frames := 1, cells := 0, slots := 0, locals := 26 }
def f_X8_keepFraction (E : Env1) (M : Mem) (v0 : Nat) (v1 : Int64) (v3 : Int64) : Option (Mem) :=
  (f_X8_greatestDivisor E M v1 v3).bind fun x1 =>
  if (lg_cmp x1 (0 : Int64)) ≤ 0 then (some M)
  else (gzl x1 (gzl x1 (some (wl (wl M v0 6 (v1 / x1)) v0 7 (v3 / x1)))))
set_option maxRecDepth 100000 in
set_option maxHeartbeats 4000000 in
theorem ok_X8_keepFraction {E : Env1} (hE : WF E) (l0 : Launch) {M : Mem} {M' : Mem} {v0 : Nat} {v1 : Int64} {v3 : Int64} (h0 : isK E v0 7) (hf : f_X8_keepFraction E M v0 v1 v3 = some (M')) : Met l0 yX8_keepFraction (wsA yX8_keepFraction cX8_keepFraction 7 none) rm_X8_keepFraction (CP E M [.ref v0, .long v1, .long v3]) (CQv E M') 0 0 (eA E) := by
  unfold f_X8_keepFraction at hf
  refine mtV l0 (by decide +kernel) (Nat.le_of_ble_eq_true rfl) (L0 := [some (.ref v0), some (.long v1), none, some (.long v3), none, none, none]) rfl (fun X h hR => ?_)
  refine G_lload_n h dX8_keepFraction_0 (i := 1) rfl rfl rfl ?_
  refine G_lload_n h dX8_keepFraction_1 (i := 3) rfl rfl rfl ?_
  obtain ⟨x1, hx1, hf⟩ := bd hf
  refine cl_X8_291 h (ok_X8_greatestDivisor hE _  hx1) dX8_keepFraction_2 (as := [.long v1, .long v3]) rfl rfl ⟨rfl, rfl, Nat.le_of_ble_eq_true rfl, Nat.le_of_ble_eq_true rfl⟩ rfl (Nat.le_of_ble_eq_true rfl) ?_
  refine G_lstore h dX8_keepFraction_5  (by decide) (L' := [some (.ref v0), some (.long v1), none, some (.long v3), none, some (.long x1), none]) rfl rfl ?_
  refine G_lload h dX8_keepFraction_7 rfl rfl ?_
  refine G_lconst h dX8_keepFraction_9 kl_0 rfl ?_
  refine G_lcmp h dX8_keepFraction_10 rfl ?_
  refine G_if_le h dX8_keepFraction_11 (tgt := 30) (by decide) rfl (fun c2 => ?_) (fun c2 => ?_)
  · have hf := it_t c2 hf
    exact pwV hR dX8_keepFraction_30 hf
  · have hf := it_f c2 hf
    refine G_aload_n h dX8_keepFraction_14 (i := 0) rfl rfl rfl ?_
    refine G_lload_n h dX8_keepFraction_15 (i := 1) rfl rfl rfl ?_
    refine G_lload h dX8_keepFraction_16 rfl rfl ?_
    obtain ⟨g3, hf⟩ := gzl_some hf
    refine G_ldiv h dX8_keepFraction_18 g3 rfl ?_
    refine pf_X8_41 h dX8_keepFraction_19 h0 rfl ?_
    refine G_aload_n h dX8_keepFraction_22 (i := 0) rfl rfl rfl ?_
    refine G_lload_n h dX8_keepFraction_23 (i := 3) rfl rfl rfl ?_
    refine G_lload h dX8_keepFraction_24 rfl rfl ?_
    obtain ⟨g4, hf⟩ := gzl_some hf
    refine G_ldiv h dX8_keepFraction_26 g4 rfl ?_
    refine pf_X8_45 h dX8_keepFraction_27 h0 rfl ?_
    exact pwV hR dX8_keepFraction_30 hf
def rm_X8_kinds : Room := { frames := 4, cells := 0, slots := 0, locals := 94 }
def f_X8_kinds (E : Env1) (M : Mem) (v0 : Nat) (v1 : Int32) : Option (Int32 × Mem) :=
  if (f_X0_hasPerson E M (rr E v0 0) v1) = 0 then (
    nm (f_X8_refuse E M v0 (-2 : Int32)) fun x4 =>
    some (x4.1, x4.2))
  else (
    (f_X1_fitting_k1 E M (rr E (rr E v0 0) 10) (rr E (rr E v0 0) 8) v1).bind fun x3 =>
    some (x3, M))
set_option maxRecDepth 100000 in
set_option maxHeartbeats 4000000 in
theorem ok_X8_kinds {E : Env1} (hE : WF E) (l0 : Launch) {M : Mem} {M' : Mem} {v0 : Nat} {v1 : Int32} {r : Int32} (h0 : isK E v0 7) (hf : f_X8_kinds E M v0 v1 = some (r, M')) : Met l0 yX8_kinds (wsA yX8_kinds cX8_kinds 2 (some .int)) rm_X8_kinds (CP E M [.ref v0, .int v1]) (CQi E r M') 0 0 (eA E) := by
  unfold f_X8_kinds at hf
  refine mtI l0 (by decide +kernel) (Nat.le_of_ble_eq_true rfl) (L0 := [some (.ref v0), some (.int v1)]) rfl (fun X h hR => ?_)
  refine G_aload_n h dX8_kinds_0 (i := 0) rfl rfl rfl ?_
  refine gf_X8_10 h hE dX8_kinds_1 h0 rfl ?_
  refine G_iload_n h dX8_kinds_4 (i := 1) rfl rfl rfl ?_
  refine cl_X8_91 h (ok_X0_hasPerson hE _ ((w_7_0 hE h0).2) (r := f_X0_hasPerson E M (rr E v0 0) v1) rfl) dX8_kinds_5 ((w_7_0 hE h0).2) (as := [.int v1]) rfl rfl ⟨rfl, rfl, Nat.le_of_ble_eq_true rfl, Nat.le_of_ble_eq_true rfl⟩ rfl (Nat.le_of_ble_eq_true rfl) (fun z1 => ?_)
  refine G_if_ne h dX8_kinds_8 (tgt := 18) (by decide) rfl (fun c2 => ?_) (fun c2 => ?_)
  · have hf := it_f c2 hf
    refine G_aload_n h dX8_kinds_18 (i := 0) rfl rfl rfl ?_
    refine gf_X8_10 h hE dX8_kinds_19 h0 rfl ?_
    refine gf_X8_235 h hE dX8_kinds_22 ((w_7_0 hE h0).2) rfl ?_
    refine G_aload_n h dX8_kinds_25 (i := 0) rfl rfl rfl ?_
    refine gf_X8_10 h hE dX8_kinds_26 h0 rfl ?_
    refine gf_X8_214 h hE dX8_kinds_29 ((w_7_0 hE h0).2) rfl ?_
    refine G_iload_n h dX8_kinds_32 (i := 1) rfl rfl rfl ?_
    obtain ⟨x3, hx3, hf⟩ := bd hf
    refine cl_X8_239_k1 h (ok_X1_fitting_k1 hE _ ((w_0_10 hE ((w_7_0 hE h0).2)).2) ((w_0_8 hE ((w_7_0 hE h0).2)).2) hx3) dX8_kinds_33 ((w_0_10 hE ((w_7_0 hE h0).2)).2) (as := [.ref (rr E (rr E v0 0) 8), .int v1]) rfl rfl ⟨rfl, rfl, Nat.le_of_ble_eq_true rfl, Nat.le_of_ble_eq_true rfl⟩ rfl (Nat.le_of_ble_eq_true rfl) ?_
    exact pwI hR dX8_kinds_36 hf
  · have hf := it_t c2 hf
    refine G_aload_n h dX8_kinds_11 (i := 0) rfl rfl rfl ?_
    refine G_bipush h dX8_kinds_12 kb_m2 rfl ?_
    obtain ⟨x4, hx4⟩ : ∃ x, x = f_X8_refuse E M v0 (-2 : Int32) := ⟨_, rfl⟩
    have hf := nm_eq hx4 hf
    refine cl_X8_68 h (ok_X8_refuse hE _ h0 hx4.symm) dX8_kinds_14 h0 (as := [.int (-2 : Int32)]) rfl rfl ⟨rfl, rfl, Nat.le_of_ble_eq_true rfl, Nat.le_of_ble_eq_true rfl⟩ rfl (Nat.le_of_ble_eq_true rfl) ?_
    exact pwI hR dX8_kinds_17 hf
def rm_X8_look : Room := { frames := 6, cells := 0, slots := 0, locals := 147 }
def f_X8_look (E : Env1) (M : Mem) (v0 : Nat) (v1 : Int32) : Option (Int32 × Mem) :=
  if (f_X8_isStep E M v1) = 0 then (
    nm (f_X8_refuse E M v0 (-2 : Int32)) fun x4 =>
    some (x4.1, x4.2))
  else (
    (f_X1_nextQuestion_k5 E M (rr E (rr E v0 0) 9) (rr E (rr E v0 0) 7) v1).bind fun x3 =>
    some (x3, M))
set_option maxRecDepth 100000 in
set_option maxHeartbeats 4000000 in
theorem ok_X8_look {E : Env1} (hE : WF E) (l0 : Launch) {M : Mem} {M' : Mem} {v0 : Nat} {v1 : Int32} {r : Int32} (h0 : isK E v0 7) (hf : f_X8_look E M v0 v1 = some (r, M')) : Met l0 yX8_look (wsA yX8_look cX8_look 2 (some .int)) rm_X8_look (CP E M [.ref v0, .int v1]) (CQi E r M') 0 0 (eA E) := by
  unfold f_X8_look at hf
  refine mtI l0 (by decide +kernel) (Nat.le_of_ble_eq_true rfl) (L0 := [some (.ref v0), some (.int v1)]) rfl (fun X h hR => ?_)
  refine G_iload_n h dX8_look_0 (i := 1) rfl rfl rfl ?_
  refine cl_X8_95 h (ok_X8_isStep hE _  (r := f_X8_isStep E M v1) rfl) dX8_look_1 (as := [.int v1]) rfl rfl ⟨rfl, rfl, Nat.le_of_ble_eq_true rfl, Nat.le_of_ble_eq_true rfl⟩ rfl (Nat.le_of_ble_eq_true rfl) (fun z1 => ?_)
  refine G_if_ne h dX8_look_4 (tgt := 14) (by decide) rfl (fun c2 => ?_) (fun c2 => ?_)
  · have hf := it_f c2 hf
    refine G_aload_n h dX8_look_14 (i := 0) rfl rfl rfl ?_
    refine gf_X8_10 h hE dX8_look_15 h0 rfl ?_
    refine gf_X8_222 h hE dX8_look_18 ((w_7_0 hE h0).2) rfl ?_
    refine G_aload_n h dX8_look_21 (i := 0) rfl rfl rfl ?_
    refine gf_X8_10 h hE dX8_look_22 h0 rfl ?_
    refine gf_X8_211 h hE dX8_look_25 ((w_7_0 hE h0).2) rfl ?_
    refine G_iload_n h dX8_look_28 (i := 1) rfl rfl rfl ?_
    obtain ⟨x3, hx3, hf⟩ := bd hf
    refine cl_X8_232_k5 h (ok_X1_nextQuestion_k5 hE _ ((w_0_9 hE ((w_7_0 hE h0).2)).2) ((w_0_7 hE ((w_7_0 hE h0).2)).2) hx3) dX8_look_29 ((w_0_9 hE ((w_7_0 hE h0).2)).2) (as := [.ref (rr E (rr E v0 0) 7), .int v1]) rfl rfl ⟨rfl, rfl, Nat.le_of_ble_eq_true rfl, Nat.le_of_ble_eq_true rfl⟩ rfl (Nat.le_of_ble_eq_true rfl) ?_
    exact pwI hR dX8_look_32 hf
  · have hf := it_t c2 hf
    refine G_aload_n h dX8_look_7 (i := 0) rfl rfl rfl ?_
    refine G_bipush h dX8_look_8 kb_m2 rfl ?_
    obtain ⟨x4, hx4⟩ : ∃ x, x = f_X8_refuse E M v0 (-2 : Int32) := ⟨_, rfl⟩
    have hf := nm_eq hx4 hf
    refine cl_X8_68 h (ok_X8_refuse hE _ h0 hx4.symm) dX8_look_10 h0 (as := [.int (-2 : Int32)]) rfl rfl ⟨rfl, rfl, Nat.le_of_ble_eq_true rfl, Nat.le_of_ble_eq_true rfl⟩ rfl (Nat.le_of_ble_eq_true rfl) ?_
    exact pwI hR dX8_look_13 hf
def rm_X8_mark : Room := { frames := 3, cells := 0, slots := 0, locals := 72 }
def f_X8_mark (E : Env1) (M : Mem) (v0 : Nat) (v1 : Int32) (v2 : Int32) (v3 : Int32) (v4 : Int32) : Option (Int32 × Mem) :=
  if (f_X0_hasPerson E M (rr E v0 0) v1) = 0 then (
    nm (f_X8_refuse E M v0 (-2 : Int32)) fun x3 =>
    some (x3.1, x3.2))
  else (
    if (f_X8_within E M v2 (-1 : Int32) (8 : Int32)) = 0 then (
      nm (f_X8_refuse E M v0 (-2 : Int32)) fun x6 =>
      some (x6.1, x6.2))
    else (
      if (f_X8_within E M v3 (0 : Int32) (23 : Int32)) = 0 then (
        nm (f_X8_refuse E M v0 (-2 : Int32)) fun x9 =>
        some (x9.1, x9.2))
      else (
        if (f_X8_within E M v4 (0 : Int32) (9 : Int32)) = 0 then (
          nm (f_X8_refuse E M v0 (-2 : Int32)) fun x13 =>
          some (x13.1, x13.2))
        else (
          (f_X8_add E M v0 (rr E (rr E v0 0) 8) v1 v2 v3 v4).bind fun x12 =>
          some (x12.1, x12.2)))))
set_option maxRecDepth 100000 in
set_option maxHeartbeats 4000000 in
theorem ok_X8_mark {E : Env1} (hE : WF E) (l0 : Launch) {M : Mem} {M' : Mem} {v0 : Nat} {v1 : Int32} {v2 : Int32} {v3 : Int32} {v4 : Int32} {r : Int32} (h0 : isK E v0 7) (hf : f_X8_mark E M v0 v1 v2 v3 v4 = some (r, M')) : Met l0 yX8_mark (wsA yX8_mark cX8_mark 5 (some .int)) rm_X8_mark (CP E M [.ref v0, .int v1, .int v2, .int v3, .int v4]) (CQi E r M') 0 0 (eA E) := by
  unfold f_X8_mark at hf
  refine mtI l0 (by decide +kernel) (Nat.le_of_ble_eq_true rfl) (L0 := [some (.ref v0), some (.int v1), some (.int v2), some (.int v3), some (.int v4)]) rfl (fun X h hR => ?_)
  refine G_aload_n h dX8_mark_0 (i := 0) rfl rfl rfl ?_
  refine gf_X8_10 h hE dX8_mark_1 h0 rfl ?_
  refine G_iload_n h dX8_mark_4 (i := 1) rfl rfl rfl ?_
  refine cl_X8_91 h (ok_X0_hasPerson hE _ ((w_7_0 hE h0).2) (r := f_X0_hasPerson E M (rr E v0 0) v1) rfl) dX8_mark_5 ((w_7_0 hE h0).2) (as := [.int v1]) rfl rfl ⟨rfl, rfl, Nat.le_of_ble_eq_true rfl, Nat.le_of_ble_eq_true rfl⟩ rfl (Nat.le_of_ble_eq_true rfl) (fun z1 => ?_)
  refine G_if_eq h dX8_mark_8 (tgt := 42) (by decide) rfl (fun c2 => ?_) (fun c2 => ?_)
  · have hf := it_t c2 hf
    refine G_aload_n h dX8_mark_42 (i := 0) rfl rfl rfl ?_
    refine G_bipush h dX8_mark_43 kb_m2 rfl ?_
    obtain ⟨x3, hx3⟩ : ∃ x, x = f_X8_refuse E M v0 (-2 : Int32) := ⟨_, rfl⟩
    have hf := nm_eq hx3 hf
    refine cl_X8_68 h (ok_X8_refuse hE _ h0 hx3.symm) dX8_mark_45 h0 (as := [.int (-2 : Int32)]) rfl rfl ⟨rfl, rfl, Nat.le_of_ble_eq_true rfl, Nat.le_of_ble_eq_true rfl⟩ rfl (Nat.le_of_ble_eq_true rfl) ?_
    exact pwI hR dX8_mark_48 hf
  · have hf := it_f c2 hf
    refine G_iload_n h dX8_mark_11 (i := 2) rfl rfl rfl ?_
    refine G_iconst h dX8_mark_12 ki_m1 rfl ?_
    refine G_bipush h dX8_mark_13 kb_8 rfl ?_
    refine cl_X8_64 h (ok_X8_within hE _  (r := f_X8_within E M v2 (-1 : Int32) (8 : Int32)) rfl) dX8_mark_15 (as := [.int v2, .int (-1 : Int32), .int (8 : Int32)]) rfl rfl ⟨rfl, rfl, Nat.le_of_ble_eq_true rfl, Nat.le_of_ble_eq_true rfl⟩ rfl (Nat.le_of_ble_eq_true rfl) (fun z4 => ?_)
    refine G_if_eq h dX8_mark_18 (tgt := 42) (by decide) rfl (fun c5 => ?_) (fun c5 => ?_)
    · have hf := it_t c5 hf
      refine G_aload_n h dX8_mark_42 (i := 0) rfl rfl rfl ?_
      refine G_bipush h dX8_mark_43 kb_m2 rfl ?_
      obtain ⟨x6, hx6⟩ : ∃ x, x = f_X8_refuse E M v0 (-2 : Int32) := ⟨_, rfl⟩
      have hf := nm_eq hx6 hf
      refine cl_X8_68 h (ok_X8_refuse hE _ h0 hx6.symm) dX8_mark_45 h0 (as := [.int (-2 : Int32)]) rfl rfl ⟨rfl, rfl, Nat.le_of_ble_eq_true rfl, Nat.le_of_ble_eq_true rfl⟩ rfl (Nat.le_of_ble_eq_true rfl) ?_
      exact pwI hR dX8_mark_48 hf
    · have hf := it_f c5 hf
      refine G_iload_n h dX8_mark_21 (i := 3) rfl rfl rfl ?_
      refine G_iconst h dX8_mark_22 ki_0 rfl ?_
      refine G_bipush h dX8_mark_23 kb_23 rfl ?_
      refine cl_X8_64 h (ok_X8_within hE _  (r := f_X8_within E M v3 (0 : Int32) (23 : Int32)) rfl) dX8_mark_25 (as := [.int v3, .int (0 : Int32), .int (23 : Int32)]) rfl rfl ⟨rfl, rfl, Nat.le_of_ble_eq_true rfl, Nat.le_of_ble_eq_true rfl⟩ rfl (Nat.le_of_ble_eq_true rfl) (fun z7 => ?_)
      refine G_if_eq h dX8_mark_28 (tgt := 42) (by decide) rfl (fun c8 => ?_) (fun c8 => ?_)
      · have hf := it_t c8 hf
        refine G_aload_n h dX8_mark_42 (i := 0) rfl rfl rfl ?_
        refine G_bipush h dX8_mark_43 kb_m2 rfl ?_
        obtain ⟨x9, hx9⟩ : ∃ x, x = f_X8_refuse E M v0 (-2 : Int32) := ⟨_, rfl⟩
        have hf := nm_eq hx9 hf
        refine cl_X8_68 h (ok_X8_refuse hE _ h0 hx9.symm) dX8_mark_45 h0 (as := [.int (-2 : Int32)]) rfl rfl ⟨rfl, rfl, Nat.le_of_ble_eq_true rfl, Nat.le_of_ble_eq_true rfl⟩ rfl (Nat.le_of_ble_eq_true rfl) ?_
        exact pwI hR dX8_mark_48 hf
      · have hf := it_f c8 hf
        refine G_iload h dX8_mark_31 rfl rfl ?_
        refine G_iconst h dX8_mark_33 ki_0 rfl ?_
        refine G_bipush h dX8_mark_34 kb_9 rfl ?_
        refine cl_X8_64 h (ok_X8_within hE _  (r := f_X8_within E M v4 (0 : Int32) (9 : Int32)) rfl) dX8_mark_36 (as := [.int v4, .int (0 : Int32), .int (9 : Int32)]) rfl rfl ⟨rfl, rfl, Nat.le_of_ble_eq_true rfl, Nat.le_of_ble_eq_true rfl⟩ rfl (Nat.le_of_ble_eq_true rfl) (fun z10 => ?_)
        refine G_if_ne h dX8_mark_39 (tgt := 49) (by decide) rfl (fun c11 => ?_) (fun c11 => ?_)
        · have hf := it_f c11 hf
          refine G_aload_n h dX8_mark_49 (i := 0) rfl rfl rfl ?_
          refine G_aload_n h dX8_mark_50 (i := 0) rfl rfl rfl ?_
          refine gf_X8_10 h hE dX8_mark_51 h0 rfl ?_
          refine gf_X8_214 h hE dX8_mark_54 ((w_7_0 hE h0).2) rfl ?_
          refine G_iload_n h dX8_mark_57 (i := 1) rfl rfl rfl ?_
          refine G_iload_n h dX8_mark_58 (i := 2) rfl rfl rfl ?_
          refine G_iload_n h dX8_mark_59 (i := 3) rfl rfl rfl ?_
          refine G_iload h dX8_mark_60 rfl rfl ?_
          obtain ⟨x12, hx12, hf⟩ := bd hf
          refine cl_X8_204 h (ok_X8_add hE _ h0 ((w_0_8 hE ((w_7_0 hE h0).2)).2) hx12) dX8_mark_62 h0 (as := [.ref (rr E (rr E v0 0) 8), .int v1, .int v2, .int v3, .int v4]) rfl rfl ⟨rfl, rfl, Nat.le_of_ble_eq_true rfl, Nat.le_of_ble_eq_true rfl⟩ rfl (Nat.le_of_ble_eq_true rfl) ?_
          exact pwI hR dX8_mark_65 hf
        · have hf := it_t c11 hf
          refine G_aload_n h dX8_mark_42 (i := 0) rfl rfl rfl ?_
          refine G_bipush h dX8_mark_43 kb_m2 rfl ?_
          obtain ⟨x13, hx13⟩ : ∃ x, x = f_X8_refuse E M v0 (-2 : Int32) := ⟨_, rfl⟩
          have hf := nm_eq hx13 hf
          refine cl_X8_68 h (ok_X8_refuse hE _ h0 hx13.symm) dX8_mark_45 h0 (as := [.int (-2 : Int32)]) rfl rfl ⟨rfl, rfl, Nat.le_of_ble_eq_true rfl, Nat.le_of_ble_eq_true rfl⟩ rfl (Nat.le_of_ble_eq_true rfl) ?_
          exact pwI hR dX8_mark_48 hf
def rm_X8_may : Room := { frames := 3, cells := 0, slots := 0, locals := 70 }
def b_X8_may_L40 (E : Env1) (k40 : Mem → Nat → Int32 → Int32 → Int32 → Int32 → Int32 → Int32 → (Option (Int32 × Mem))) (M : Mem) (v0 : Nat) (v1 : Int32) (v2 : Int32) (v3 : Int32) (v4 : Int32) (v5 : Int32) (v6 : Int32) : Option (Int32 × Mem) :=
  if (256 : Int32) ≤ v6 then (
    if v2 = 0 then (some (v3, M))
    else if v2 = 1 then (some (if v3 = 0 then (-1 : Int32) else v4, M))
    else (some (v5, M)))
  else (
    (f_X0_fitsSights E M (rr E v0 0) v1 v6).bind fun x6 =>
    if x6 = 0 then (k40 M v0 v1 v2 v3 v4 v5 (v6 + 1))
    else (k40 M v0 v1 v2 (v3 + 1) (v4 &&& v6) (v5 ||| v6) (v6 + 1)))
set_option maxRecDepth 100000 in
set_option maxHeartbeats 4000000 in
theorem ob_X8_may_L40 {X : Ctx} {l0 : Launch} {E : Env1} (h : Cx X l0 E RX8 cX8_may (some .int) 7 rm_X8_may) (hE : WF E) {M' : Mem} {r : Int32} (hR : RetI X E cX8_may r M') {k40 : Mem → Nat → Int32 → Int32 → Int32 → Int32 → Int32 → Int32 → (Option (Int32 × Mem))} (hk40 : ∀ (M : Mem) (v0 : Nat) (v1 : Int32) (v2 : Int32) (v3 : Int32) (v4 : Int32) (v5 : Int32) (v6 : Int32), isK E v0 7 → k40 M v0 v1 v2 v3 v4 v5 v6 = some (r, M') → G X E (0, 0) 40 [some (.ref v0), some (.int v1), some (.int v2), some (.int v3), some (.int v4), some (.int v5), some (.int v6)] [] M) {M : Mem} {v0 : Nat} {v1 : Int32} {v2 : Int32} {v3 : Int32} {v4 : Int32} {v5 : Int32} {v6 : Int32} (h_v0 : isK E v0 7) (hf : b_X8_may_L40 E k40 M v0 v1 v2 v3 v4 v5 v6 = some (r, M')) : G X E (0, 0) 40 [some (.ref v0), some (.int v1), some (.int v2), some (.int v3), some (.int v4), some (.int v5), some (.int v6)] [] M := by
  unfold b_X8_may_L40 at hf
  refine G_iload h dX8_may_40 rfl rfl ?_
  refine G_sipush h dX8_may_42 ks_256 rfl ?_
  refine G_icmp_ge h dX8_may_45 (tgt := 84) (by decide) rfl (fun c1 => ?_) (fun c1 => ?_)
  · have hf := it_t c1 hf
    refine G_iload_n h dX8_may_84 (i := 2) rfl rfl rfl ?_
    by_cases c2 : v2 = 0
    · have hf := it_t c2 hf
      refine G_lk h dX8_may_85 (by decide) (by rw [c2]) (tgt := 112) (by decide) ?_
      refine G_iload_n h dX8_may_112 (i := 3) rfl rfl rfl ?_
      exact pwI hR dX8_may_113 hf
    have hf := it_f c2 hf
    by_cases c3 : v2 = 1
    · have hf := it_t c3 hf
      refine G_lk h dX8_may_85 (by decide) (by rw [c3]) (tgt := 114) (by decide) ?_
      refine G_iload_n h dX8_may_114 (i := 3) rfl rfl rfl ?_
      have hJ : G X E (0, 0) 124 [some (.ref v0), some (.int v1), some (.int v2), some (.int v3), some (.int v4), some (.int v5), some (.int v6)] [.int (if v3 = 0 then (-1 : Int32) else v4)] M := by
        exact pwI hR dX8_may_124 hf
      refine G_if_ne h dX8_may_115 (tgt := 122) (by decide) rfl (fun c4 => ?_) (fun c4 => ?_)
      · refine G_iload h dX8_may_122 rfl rfl ?_
        exact G_ifn c4 hJ
      · refine G_iconst h dX8_may_118 ki_m1 rfl ?_
        refine G_goto h dX8_may_119 (tgt := 124) (by decide) ?_
        exact G_ifp c4 hJ
    have hf := it_f c3 hf
    have nc2 := ne_lit c2 (n := 0) (by decide)
    have nc3 := ne_lit c3 (n := 1) (by decide)
    refine G_lk h dX8_may_85 (by decide) (off := 40) (by simp [Op.lookupswitch.offset, Ne.symm nc2, nc2, Ne.symm nc3, nc3]) (tgt := 125) (by decide) ?_
    refine G_iload h dX8_may_125 rfl rfl ?_
    exact pwI hR dX8_may_127 hf
  · have hf := it_f c1 hf
    refine G_aload_n h dX8_may_48 (i := 0) rfl rfl rfl ?_
    refine gf_X8_10 h hE dX8_may_49 h_v0 rfl ?_
    refine G_iload_n h dX8_may_52 (i := 1) rfl rfl rfl ?_
    refine G_iload h dX8_may_53 rfl rfl ?_
    obtain ⟨x6, hx6, hf⟩ := bd hf
    refine cl_X8_208 h (ok_X0_fitsSights hE _ ((w_7_0 hE h_v0).2) hx6) dX8_may_55 ((w_7_0 hE h_v0).2) (as := [.int v1, .int v6]) rfl rfl ⟨rfl, rfl, Nat.le_of_ble_eq_true rfl, Nat.le_of_ble_eq_true rfl⟩ rfl (Nat.le_of_ble_eq_true rfl) (fun z5 => ?_)
    refine G_if_eq h dX8_may_58 (tgt := 78) (by decide) rfl (fun c7 => ?_) (fun c7 => ?_)
    · have hf := it_t c7 hf
      refine G_iinc2 h dX8_may_78 rfl ki_1 (by decide) (L' := [some (.ref v0), some (.int v1), some (.int v2), some (.int v3), some (.int v4), some (.int v5), some (.int (v6 + 1))]) rfl rfl ?_
      refine G_goto h dX8_may_81 (tgt := 40) (by decide) ?_
      exact hk40 _ _ _ _ _ _ _ _ h_v0 hf
    · have hf := it_f c7 hf
      refine G_iinc2 h dX8_may_61 rfl ki_1 (by decide) (L' := [some (.ref v0), some (.int v1), some (.int v2), some (.int (v3 + 1)), some (.int v4), some (.int v5), some (.int v6)]) rfl rfl ?_
      refine G_iload h dX8_may_64 rfl rfl ?_
      refine G_iload h dX8_may_66 rfl rfl ?_
      refine G_iand h dX8_may_68 rfl ?_
      refine G_istore h dX8_may_69  (by decide) (L' := [some (.ref v0), some (.int v1), some (.int v2), some (.int (v3 + 1)), some (.int (v4 &&& v6)), some (.int v5), some (.int v6)]) rfl rfl ?_
      refine G_iload h dX8_may_71 rfl rfl ?_
      refine G_iload h dX8_may_73 rfl rfl ?_
      refine G_ior h dX8_may_75 rfl ?_
      refine G_istore h dX8_may_76  (by decide) (L' := [some (.ref v0), some (.int v1), some (.int v2), some (.int (v3 + 1)), some (.int (v4 &&& v6)), some (.int (v5 ||| v6)), some (.int v6)]) rfl rfl ?_
      refine G_iinc2 h dX8_may_78 rfl ki_1 (by decide) (L' := [some (.ref v0), some (.int v1), some (.int v2), some (.int (v3 + 1)), some (.int (v4 &&& v6)), some (.int (v5 ||| v6)), some (.int (v6 + 1))]) rfl rfl ?_
      refine G_goto h dX8_may_81 (tgt := 40) (by decide) ?_
      exact hk40 _ _ _ _ _ _ _ _ h_v0 hf
def f_X8_may_L40 (E : Env1) : Nat → Mem → Nat → Int32 → Int32 → Int32 → Int32 → Int32 → Int32 → (Option (Int32 × Mem))
  | 0 => fun _ _ _ _ _ _ _ _ => none
  | n + 1 => b_X8_may_L40 E (f_X8_may_L40 E n)
theorem o_X8_may_L40 {X : Ctx} {l0 : Launch} {E : Env1} (h : Cx X l0 E RX8 cX8_may (some .int) 7 rm_X8_may) (hE : WF E) {M' : Mem} {r : Int32} (hR : RetI X E cX8_may r M') : ∀ (n : Nat) (M : Mem) (v0 : Nat) (v1 : Int32) (v2 : Int32) (v3 : Int32) (v4 : Int32) (v5 : Int32) (v6 : Int32), isK E v0 7 → f_X8_may_L40 E n M v0 v1 v2 v3 v4 v5 v6 = some (r, M') → G X E (0, 0) 40 [some (.ref v0), some (.int v1), some (.int v2), some (.int v3), some (.int v4), some (.int v5), some (.int v6)] [] M := by
  intro n
  induction n with
  | zero =>
    intro _ _ _ _ _ _ _ _ a0 hf
    have h0 : (none : Option (Int32 × Mem)) = some (r, M') := hf
    cases h0
  | succ n ih =>
    intro _ _ _ _ _ _ _ _ a0 hf
    exact ob_X8_may_L40 h hE hR  ih a0 hf
def f_X8_may (E : Env1) (M : Mem) (v0 : Nat) (v1 : Int32) (v2 : Int32) : Option (Int32 × Mem) :=
  if (f_X0_hasPerson E M (rr E v0 0) v1) = 0 then (
    nm (f_X8_refuse E M v0 (-2 : Int32)) fun x3 =>
    some (x3.1, x3.2))
  else (
    if (f_X8_within E M v2 (0 : Int32) (2 : Int32)) = 0 then (
      nm (f_X8_refuse E M v0 (-2 : Int32)) fun x6 =>
      some (x6.1, x6.2))
    else (f_X8_may_L40 E FU M v0 v1 v2 (0 : Int32) (255 : Int32) (0 : Int32) (0 : Int32)))
set_option maxRecDepth 100000 in
set_option maxHeartbeats 4000000 in
theorem ok_X8_may {E : Env1} (hE : WF E) (l0 : Launch) {M : Mem} {M' : Mem} {v0 : Nat} {v1 : Int32} {v2 : Int32} {r : Int32} (h0 : isK E v0 7) (hf : f_X8_may E M v0 v1 v2 = some (r, M')) : Met l0 yX8_may (wsA yX8_may cX8_may 7 (some .int)) rm_X8_may (CP E M [.ref v0, .int v1, .int v2]) (CQi E r M') 0 0 (eA E) := by
  unfold f_X8_may at hf
  refine mtI l0 (by decide +kernel) (Nat.le_of_ble_eq_true rfl) (L0 := [some (.ref v0), some (.int v1), some (.int v2), none, none, none, none]) rfl (fun X h hR => ?_)
  refine G_aload_n h dX8_may_0 (i := 0) rfl rfl rfl ?_
  refine gf_X8_10 h hE dX8_may_1 h0 rfl ?_
  refine G_iload_n h dX8_may_4 (i := 1) rfl rfl rfl ?_
  refine cl_X8_91 h (ok_X0_hasPerson hE _ ((w_7_0 hE h0).2) (r := f_X0_hasPerson E M (rr E v0 0) v1) rfl) dX8_may_5 ((w_7_0 hE h0).2) (as := [.int v1]) rfl rfl ⟨rfl, rfl, Nat.le_of_ble_eq_true rfl, Nat.le_of_ble_eq_true rfl⟩ rfl (Nat.le_of_ble_eq_true rfl) (fun z1 => ?_)
  refine G_if_eq h dX8_may_8 (tgt := 20) (by decide) rfl (fun c2 => ?_) (fun c2 => ?_)
  · have hf := it_t c2 hf
    refine G_aload_n h dX8_may_20 (i := 0) rfl rfl rfl ?_
    refine G_bipush h dX8_may_21 kb_m2 rfl ?_
    obtain ⟨x3, hx3⟩ : ∃ x, x = f_X8_refuse E M v0 (-2 : Int32) := ⟨_, rfl⟩
    have hf := nm_eq hx3 hf
    refine cl_X8_68 h (ok_X8_refuse hE _ h0 hx3.symm) dX8_may_23 h0 (as := [.int (-2 : Int32)]) rfl rfl ⟨rfl, rfl, Nat.le_of_ble_eq_true rfl, Nat.le_of_ble_eq_true rfl⟩ rfl (Nat.le_of_ble_eq_true rfl) ?_
    exact pwI hR dX8_may_26 hf
  · have hf := it_f c2 hf
    refine G_iload_n h dX8_may_11 (i := 2) rfl rfl rfl ?_
    refine G_iconst h dX8_may_12 ki_0 rfl ?_
    refine G_iconst h dX8_may_13 ki_2 rfl ?_
    refine cl_X8_64 h (ok_X8_within hE _  (r := f_X8_within E M v2 (0 : Int32) (2 : Int32)) rfl) dX8_may_14 (as := [.int v2, .int (0 : Int32), .int (2 : Int32)]) rfl rfl ⟨rfl, rfl, Nat.le_of_ble_eq_true rfl, Nat.le_of_ble_eq_true rfl⟩ rfl (Nat.le_of_ble_eq_true rfl) (fun z4 => ?_)
    refine G_if_ne h dX8_may_17 (tgt := 27) (by decide) rfl (fun c5 => ?_) (fun c5 => ?_)
    · have hf := it_f c5 hf
      refine G_iconst h dX8_may_27 ki_0 rfl ?_
      refine G_istore_n h dX8_may_28 (i := 3) rfl (by decide) (L' := [some (.ref v0), some (.int v1), some (.int v2), some (.int (0 : Int32)), none, none, none]) rfl rfl ?_
      refine G_sipush h dX8_may_29 ks_255 rfl ?_
      refine G_istore h dX8_may_32  (by decide) (L' := [some (.ref v0), some (.int v1), some (.int v2), some (.int (0 : Int32)), some (.int (255 : Int32)), none, none]) rfl rfl ?_
      refine G_iconst h dX8_may_34 ki_0 rfl ?_
      refine G_istore h dX8_may_35  (by decide) (L' := [some (.ref v0), some (.int v1), some (.int v2), some (.int (0 : Int32)), some (.int (255 : Int32)), some (.int (0 : Int32)), none]) rfl rfl ?_
      refine G_iconst h dX8_may_37 ki_0 rfl ?_
      refine G_istore h dX8_may_38  (by decide) (L' := [some (.ref v0), some (.int v1), some (.int v2), some (.int (0 : Int32)), some (.int (255 : Int32)), some (.int (0 : Int32)), some (.int (0 : Int32))]) rfl rfl ?_
      exact o_X8_may_L40 h hE hR  FU _ _ _ _ _ _ _ _ h0 hf
    · have hf := it_t c5 hf
      refine G_aload_n h dX8_may_20 (i := 0) rfl rfl rfl ?_
      refine G_bipush h dX8_may_21 kb_m2 rfl ?_
      obtain ⟨x6, hx6⟩ : ∃ x, x = f_X8_refuse E M v0 (-2 : Int32) := ⟨_, rfl⟩
      have hf := nm_eq hx6 hf
      refine cl_X8_68 h (ok_X8_refuse hE _ h0 hx6.symm) dX8_may_23 h0 (as := [.int (-2 : Int32)]) rfl rfl ⟨rfl, rfl, Nat.le_of_ble_eq_true rfl, Nat.le_of_ble_eq_true rfl⟩ rfl (Nat.le_of_ble_eq_true rfl) ?_
      exact pwI hR dX8_may_26 hf
def rm_X8_meets : Room := { frames := 5, cells := 0, slots := 0, locals := 117 }
def f_X8_meets (E : Env1) (M : Mem) (v0 : Nat) (v1 : Int32) (v2 : Int32) : Option (Int32 × Mem) :=
  if (f_X0_hasPerson E M (rr E v0 0) v1) = 0 then (
    nm (f_X8_refuse E M v0 (-2 : Int32)) fun x3 =>
    some (x3.1, x3.2))
  else (
    if (f_X8_isStep E M v2) = 0 then (
      nm (f_X8_refuse E M v0 (-2 : Int32)) fun x17 =>
      some (x17.1, x17.2))
    else (
      (f_X5_isKnown E M (rr E (rr E v0 0) 3) v1 v2).bind fun x7 =>
      if x7 = 0 then (
        if (mi M (rr E (rr E v0 0) 3) 4) < (9999 : Int32) then (
          (f_X0_remember E M (rr E v0 0)).bind fun x11 =>
          (f_X0_introduce E x11 (rr E v0 0) v1 v2).bind fun x12 =>
          (f_X5_isKnown E x12 (rr E (rr E v0 0) 3) v1 v2).bind fun x14 =>
          some (if x14 = 0 then (0 : Int32) else (1 : Int32), x12))
        else (
          nm (f_X8_refuse E M v0 (-3 : Int32)) fun x16 =>
          some (x16.1, x16.2)))
      else (
        nm (f_X8_refuse E M v0 (-3 : Int32)) fun x9 =>
        some (x9.1, x9.2))))
set_option maxRecDepth 100000 in
set_option maxHeartbeats 4000000 in
theorem ok_X8_meets {E : Env1} (hE : WF E) (l0 : Launch) {M : Mem} {M' : Mem} {v0 : Nat} {v1 : Int32} {v2 : Int32} {r : Int32} (h0 : isK E v0 7) (hf : f_X8_meets E M v0 v1 v2 = some (r, M')) : Met l0 yX8_meets (wsA yX8_meets cX8_meets 3 (some .int)) rm_X8_meets (CP E M [.ref v0, .int v1, .int v2]) (CQi E r M') 0 0 (eA E) := by
  unfold f_X8_meets at hf
  refine mtI l0 (by decide +kernel) (Nat.le_of_ble_eq_true rfl) (L0 := [some (.ref v0), some (.int v1), some (.int v2)]) rfl (fun X h hR => ?_)
  refine G_aload_n h dX8_meets_0 (i := 0) rfl rfl rfl ?_
  refine gf_X8_10 h hE dX8_meets_1 h0 rfl ?_
  refine G_iload_n h dX8_meets_4 (i := 1) rfl rfl rfl ?_
  refine cl_X8_91 h (ok_X0_hasPerson hE _ ((w_7_0 hE h0).2) (r := f_X0_hasPerson E M (rr E v0 0) v1) rfl) dX8_meets_5 ((w_7_0 hE h0).2) (as := [.int v1]) rfl rfl ⟨rfl, rfl, Nat.le_of_ble_eq_true rfl, Nat.le_of_ble_eq_true rfl⟩ rfl (Nat.le_of_ble_eq_true rfl) (fun z1 => ?_)
  refine G_if_eq h dX8_meets_8 (tgt := 18) (by decide) rfl (fun c2 => ?_) (fun c2 => ?_)
  · have hf := it_t c2 hf
    refine G_aload_n h dX8_meets_18 (i := 0) rfl rfl rfl ?_
    refine G_bipush h dX8_meets_19 kb_m2 rfl ?_
    obtain ⟨x3, hx3⟩ : ∃ x, x = f_X8_refuse E M v0 (-2 : Int32) := ⟨_, rfl⟩
    have hf := nm_eq hx3 hf
    refine cl_X8_68 h (ok_X8_refuse hE _ h0 hx3.symm) dX8_meets_21 h0 (as := [.int (-2 : Int32)]) rfl rfl ⟨rfl, rfl, Nat.le_of_ble_eq_true rfl, Nat.le_of_ble_eq_true rfl⟩ rfl (Nat.le_of_ble_eq_true rfl) ?_
    exact pwI hR dX8_meets_24 hf
  · have hf := it_f c2 hf
    refine G_iload_n h dX8_meets_11 (i := 2) rfl rfl rfl ?_
    refine cl_X8_95 h (ok_X8_isStep hE _  (r := f_X8_isStep E M v2) rfl) dX8_meets_12 (as := [.int v2]) rfl rfl ⟨rfl, rfl, Nat.le_of_ble_eq_true rfl, Nat.le_of_ble_eq_true rfl⟩ rfl (Nat.le_of_ble_eq_true rfl) (fun z4 => ?_)
    refine G_if_ne h dX8_meets_15 (tgt := 25) (by decide) rfl (fun c5 => ?_) (fun c5 => ?_)
    · have hf := it_f c5 hf
      refine G_aload_n h dX8_meets_25 (i := 0) rfl rfl rfl ?_
      refine gf_X8_10 h hE dX8_meets_26 h0 rfl ?_
      refine gf_X8_98 h hE dX8_meets_29 ((w_7_0 hE h0).2) rfl ?_
      refine G_iload_n h dX8_meets_32 (i := 1) rfl rfl rfl ?_
      refine G_iload_n h dX8_meets_33 (i := 2) rfl rfl rfl ?_
      obtain ⟨x7, hx7, hf⟩ := bd hf
      refine cl_X8_102 h (ok_X5_isKnown hE _ ((w_0_3 hE ((w_7_0 hE h0).2)).2) hx7) dX8_meets_34 ((w_0_3 hE ((w_7_0 hE h0).2)).2) (as := [.int v1, .int v2]) rfl rfl ⟨rfl, rfl, Nat.le_of_ble_eq_true rfl, Nat.le_of_ble_eq_true rfl⟩ rfl (Nat.le_of_ble_eq_true rfl) (fun z6 => ?_)
      refine G_if_ne h dX8_meets_37 (tgt := 56) (by decide) rfl (fun c8 => ?_) (fun c8 => ?_)
      · have hf := it_f c8 hf
        refine G_aload_n h dX8_meets_56 (i := 0) rfl rfl rfl ?_
        refine G_bipush h dX8_meets_57 kb_m3 rfl ?_
        obtain ⟨x9, hx9⟩ : ∃ x, x = f_X8_refuse E M v0 (-3 : Int32) := ⟨_, rfl⟩
        have hf := nm_eq hx9 hf
        refine cl_X8_68 h (ok_X8_refuse hE _ h0 hx9.symm) dX8_meets_59 h0 (as := [.int (-3 : Int32)]) rfl rfl ⟨rfl, rfl, Nat.le_of_ble_eq_true rfl, Nat.le_of_ble_eq_true rfl⟩ rfl (Nat.le_of_ble_eq_true rfl) ?_
        exact pwI hR dX8_meets_62 hf
      · have hf := it_t c8 hf
        refine G_aload_n h dX8_meets_40 (i := 0) rfl rfl rfl ?_
        refine gf_X8_10 h hE dX8_meets_41 h0 rfl ?_
        refine gf_X8_98 h hE dX8_meets_44 ((w_7_0 hE h0).2) rfl ?_
        refine gf_X8_108 h dX8_meets_47 ((w_0_3 hE ((w_7_0 hE h0).2)).2) rfl ?_
        refine G_sipush h dX8_meets_50 ks_9999 rfl ?_
        refine G_icmp_lt h dX8_meets_53 (tgt := 63) (by decide) rfl (fun c10 => ?_) (fun c10 => ?_)
        · have hf := it_t c10 hf
          refine G_aload_n h dX8_meets_63 (i := 0) rfl rfl rfl ?_
          refine gf_X8_10 h hE dX8_meets_64 h0 rfl ?_
          obtain ⟨x11, hx11, hf⟩ := bd hf
          refine cl_X8_111 h (ok_X0_remember hE _ ((w_7_0 hE h0).2) hx11) dX8_meets_67 ((w_7_0 hE h0).2) (as := []) rfl rfl ⟨rfl, rfl, Nat.le_of_ble_eq_true rfl, Nat.le_of_ble_eq_true rfl⟩ rfl (Nat.le_of_ble_eq_true rfl) ?_
          refine G_aload_n h dX8_meets_70 (i := 0) rfl rfl rfl ?_
          refine gf_X8_10 h hE dX8_meets_71 h0 rfl ?_
          refine G_iload_n h dX8_meets_74 (i := 1) rfl rfl rfl ?_
          refine G_iload_n h dX8_meets_75 (i := 2) rfl rfl rfl ?_
          obtain ⟨x12, hx12, hf⟩ := bd hf
          refine cl_X8_114 h (ok_X0_introduce hE _ ((w_7_0 hE h0).2) hx12) dX8_meets_76 ((w_7_0 hE h0).2) (as := [.int v1, .int v2]) rfl rfl ⟨rfl, rfl, Nat.le_of_ble_eq_true rfl, Nat.le_of_ble_eq_true rfl⟩ rfl (Nat.le_of_ble_eq_true rfl) ?_
          refine G_aload_n h dX8_meets_79 (i := 0) rfl rfl rfl ?_
          refine gf_X8_10 h hE dX8_meets_80 h0 rfl ?_
          refine gf_X8_98 h hE dX8_meets_83 ((w_7_0 hE h0).2) rfl ?_
          refine G_iload_n h dX8_meets_86 (i := 1) rfl rfl rfl ?_
          refine G_iload_n h dX8_meets_87 (i := 2) rfl rfl rfl ?_
          obtain ⟨x14, hx14, hf⟩ := bd hf
          refine cl_X8_102 h (ok_X5_isKnown hE _ ((w_0_3 hE ((w_7_0 hE h0).2)).2) hx14) dX8_meets_88 ((w_0_3 hE ((w_7_0 hE h0).2)).2) (as := [.int v1, .int v2]) rfl rfl ⟨rfl, rfl, Nat.le_of_ble_eq_true rfl, Nat.le_of_ble_eq_true rfl⟩ rfl (Nat.le_of_ble_eq_true rfl) (fun z13 => ?_)
          have hJ : G X E (0, 0) 99 [some (.ref v0), some (.int v1), some (.int v2)] [.int (if x14 = 0 then (0 : Int32) else (1 : Int32))] x12 := by
            exact pwI hR dX8_meets_99 hf
          refine G_if_eq h dX8_meets_91 (tgt := 98) (by decide) rfl (fun c15 => ?_) (fun c15 => ?_)
          · refine G_iconst h dX8_meets_98 ki_0 rfl ?_
            exact G_ifp c15 hJ
          · refine G_iconst h dX8_meets_94 ki_1 rfl ?_
            refine G_goto h dX8_meets_95 (tgt := 99) (by decide) ?_
            exact G_ifn c15 hJ
        · have hf := it_f c10 hf
          refine G_aload_n h dX8_meets_56 (i := 0) rfl rfl rfl ?_
          refine G_bipush h dX8_meets_57 kb_m3 rfl ?_
          obtain ⟨x16, hx16⟩ : ∃ x, x = f_X8_refuse E M v0 (-3 : Int32) := ⟨_, rfl⟩
          have hf := nm_eq hx16 hf
          refine cl_X8_68 h (ok_X8_refuse hE _ h0 hx16.symm) dX8_meets_59 h0 (as := [.int (-3 : Int32)]) rfl rfl ⟨rfl, rfl, Nat.le_of_ble_eq_true rfl, Nat.le_of_ble_eq_true rfl⟩ rfl (Nat.le_of_ble_eq_true rfl) ?_
          exact pwI hR dX8_meets_62 hf
    · have hf := it_t c5 hf
      refine G_aload_n h dX8_meets_18 (i := 0) rfl rfl rfl ?_
      refine G_bipush h dX8_meets_19 kb_m2 rfl ?_
      obtain ⟨x17, hx17⟩ : ∃ x, x = f_X8_refuse E M v0 (-2 : Int32) := ⟨_, rfl⟩
      have hf := nm_eq hx17 hf
      refine cl_X8_68 h (ok_X8_refuse hE _ h0 hx17.symm) dX8_meets_21 h0 (as := [.int (-2 : Int32)]) rfl rfl ⟨rfl, rfl, Nat.le_of_ble_eq_true rfl, Nat.le_of_ble_eq_true rfl⟩ rfl (Nat.le_of_ble_eq_true rfl) ?_
      exact pwI hR dX8_meets_24 hf
def rm_X8_note : Room := { frames := 3, cells := 0, slots := 0, locals := 72 }
def f_X8_note (E : Env1) (M : Mem) (v0 : Nat) (v1 : Int32) (v2 : Int32) (v3 : Int32) (v4 : Int32) : Option (Int32 × Mem) :=
  if (f_X8_isStep E M v1) = 0 then (
    nm (f_X8_refuse E M v0 (-2 : Int32)) fun x3 =>
    some (x3.1, x3.2))
  else (
    if (f_X8_within E M v2 (1 : Int32) (12 : Int32)) = 0 then (
      nm (f_X8_refuse E M v0 (-2 : Int32)) fun x6 =>
      some (x6.1, x6.2))
    else (
      if (f_X8_within E M v3 (0 : Int32) (23 : Int32)) = 0 then (
        nm (f_X8_refuse E M v0 (-2 : Int32)) fun x9 =>
        some (x9.1, x9.2))
      else (
        if (f_X8_within E M v4 (0 : Int32) (9 : Int32)) = 0 then (
          nm (f_X8_refuse E M v0 (-2 : Int32)) fun x13 =>
          some (x13.1, x13.2))
        else (
          (f_X8_add E M v0 (rr E (rr E v0 0) 7) v1 v2 v3 v4).bind fun x12 =>
          some (x12.1, x12.2)))))
set_option maxRecDepth 100000 in
set_option maxHeartbeats 4000000 in
theorem ok_X8_note {E : Env1} (hE : WF E) (l0 : Launch) {M : Mem} {M' : Mem} {v0 : Nat} {v1 : Int32} {v2 : Int32} {v3 : Int32} {v4 : Int32} {r : Int32} (h0 : isK E v0 7) (hf : f_X8_note E M v0 v1 v2 v3 v4 = some (r, M')) : Met l0 yX8_note (wsA yX8_note cX8_note 5 (some .int)) rm_X8_note (CP E M [.ref v0, .int v1, .int v2, .int v3, .int v4]) (CQi E r M') 0 0 (eA E) := by
  unfold f_X8_note at hf
  refine mtI l0 (by decide +kernel) (Nat.le_of_ble_eq_true rfl) (L0 := [some (.ref v0), some (.int v1), some (.int v2), some (.int v3), some (.int v4)]) rfl (fun X h hR => ?_)
  refine G_iload_n h dX8_note_0 (i := 1) rfl rfl rfl ?_
  refine cl_X8_95 h (ok_X8_isStep hE _  (r := f_X8_isStep E M v1) rfl) dX8_note_1 (as := [.int v1]) rfl rfl ⟨rfl, rfl, Nat.le_of_ble_eq_true rfl, Nat.le_of_ble_eq_true rfl⟩ rfl (Nat.le_of_ble_eq_true rfl) (fun z1 => ?_)
  refine G_if_eq h dX8_note_4 (tgt := 38) (by decide) rfl (fun c2 => ?_) (fun c2 => ?_)
  · have hf := it_t c2 hf
    refine G_aload_n h dX8_note_38 (i := 0) rfl rfl rfl ?_
    refine G_bipush h dX8_note_39 kb_m2 rfl ?_
    obtain ⟨x3, hx3⟩ : ∃ x, x = f_X8_refuse E M v0 (-2 : Int32) := ⟨_, rfl⟩
    have hf := nm_eq hx3 hf
    refine cl_X8_68 h (ok_X8_refuse hE _ h0 hx3.symm) dX8_note_41 h0 (as := [.int (-2 : Int32)]) rfl rfl ⟨rfl, rfl, Nat.le_of_ble_eq_true rfl, Nat.le_of_ble_eq_true rfl⟩ rfl (Nat.le_of_ble_eq_true rfl) ?_
    exact pwI hR dX8_note_44 hf
  · have hf := it_f c2 hf
    refine G_iload_n h dX8_note_7 (i := 2) rfl rfl rfl ?_
    refine G_iconst h dX8_note_8 ki_1 rfl ?_
    refine G_bipush h dX8_note_9 kb_12 rfl ?_
    refine cl_X8_64 h (ok_X8_within hE _  (r := f_X8_within E M v2 (1 : Int32) (12 : Int32)) rfl) dX8_note_11 (as := [.int v2, .int (1 : Int32), .int (12 : Int32)]) rfl rfl ⟨rfl, rfl, Nat.le_of_ble_eq_true rfl, Nat.le_of_ble_eq_true rfl⟩ rfl (Nat.le_of_ble_eq_true rfl) (fun z4 => ?_)
    refine G_if_eq h dX8_note_14 (tgt := 38) (by decide) rfl (fun c5 => ?_) (fun c5 => ?_)
    · have hf := it_t c5 hf
      refine G_aload_n h dX8_note_38 (i := 0) rfl rfl rfl ?_
      refine G_bipush h dX8_note_39 kb_m2 rfl ?_
      obtain ⟨x6, hx6⟩ : ∃ x, x = f_X8_refuse E M v0 (-2 : Int32) := ⟨_, rfl⟩
      have hf := nm_eq hx6 hf
      refine cl_X8_68 h (ok_X8_refuse hE _ h0 hx6.symm) dX8_note_41 h0 (as := [.int (-2 : Int32)]) rfl rfl ⟨rfl, rfl, Nat.le_of_ble_eq_true rfl, Nat.le_of_ble_eq_true rfl⟩ rfl (Nat.le_of_ble_eq_true rfl) ?_
      exact pwI hR dX8_note_44 hf
    · have hf := it_f c5 hf
      refine G_iload_n h dX8_note_17 (i := 3) rfl rfl rfl ?_
      refine G_iconst h dX8_note_18 ki_0 rfl ?_
      refine G_bipush h dX8_note_19 kb_23 rfl ?_
      refine cl_X8_64 h (ok_X8_within hE _  (r := f_X8_within E M v3 (0 : Int32) (23 : Int32)) rfl) dX8_note_21 (as := [.int v3, .int (0 : Int32), .int (23 : Int32)]) rfl rfl ⟨rfl, rfl, Nat.le_of_ble_eq_true rfl, Nat.le_of_ble_eq_true rfl⟩ rfl (Nat.le_of_ble_eq_true rfl) (fun z7 => ?_)
      refine G_if_eq h dX8_note_24 (tgt := 38) (by decide) rfl (fun c8 => ?_) (fun c8 => ?_)
      · have hf := it_t c8 hf
        refine G_aload_n h dX8_note_38 (i := 0) rfl rfl rfl ?_
        refine G_bipush h dX8_note_39 kb_m2 rfl ?_
        obtain ⟨x9, hx9⟩ : ∃ x, x = f_X8_refuse E M v0 (-2 : Int32) := ⟨_, rfl⟩
        have hf := nm_eq hx9 hf
        refine cl_X8_68 h (ok_X8_refuse hE _ h0 hx9.symm) dX8_note_41 h0 (as := [.int (-2 : Int32)]) rfl rfl ⟨rfl, rfl, Nat.le_of_ble_eq_true rfl, Nat.le_of_ble_eq_true rfl⟩ rfl (Nat.le_of_ble_eq_true rfl) ?_
        exact pwI hR dX8_note_44 hf
      · have hf := it_f c8 hf
        refine G_iload h dX8_note_27 rfl rfl ?_
        refine G_iconst h dX8_note_29 ki_0 rfl ?_
        refine G_bipush h dX8_note_30 kb_9 rfl ?_
        refine cl_X8_64 h (ok_X8_within hE _  (r := f_X8_within E M v4 (0 : Int32) (9 : Int32)) rfl) dX8_note_32 (as := [.int v4, .int (0 : Int32), .int (9 : Int32)]) rfl rfl ⟨rfl, rfl, Nat.le_of_ble_eq_true rfl, Nat.le_of_ble_eq_true rfl⟩ rfl (Nat.le_of_ble_eq_true rfl) (fun z10 => ?_)
        refine G_if_ne h dX8_note_35 (tgt := 45) (by decide) rfl (fun c11 => ?_) (fun c11 => ?_)
        · have hf := it_f c11 hf
          refine G_aload_n h dX8_note_45 (i := 0) rfl rfl rfl ?_
          refine G_aload_n h dX8_note_46 (i := 0) rfl rfl rfl ?_
          refine gf_X8_10 h hE dX8_note_47 h0 rfl ?_
          refine gf_X8_211 h hE dX8_note_50 ((w_7_0 hE h0).2) rfl ?_
          refine G_iload_n h dX8_note_53 (i := 1) rfl rfl rfl ?_
          refine G_iload_n h dX8_note_54 (i := 2) rfl rfl rfl ?_
          refine G_iload_n h dX8_note_55 (i := 3) rfl rfl rfl ?_
          refine G_iload h dX8_note_56 rfl rfl ?_
          obtain ⟨x12, hx12, hf⟩ := bd hf
          refine cl_X8_204 h (ok_X8_add hE _ h0 ((w_0_7 hE ((w_7_0 hE h0).2)).2) hx12) dX8_note_58 h0 (as := [.ref (rr E (rr E v0 0) 7), .int v1, .int v2, .int v3, .int v4]) rfl rfl ⟨rfl, rfl, Nat.le_of_ble_eq_true rfl, Nat.le_of_ble_eq_true rfl⟩ rfl (Nat.le_of_ble_eq_true rfl) ?_
          exact pwI hR dX8_note_61 hf
        · have hf := it_t c11 hf
          refine G_aload_n h dX8_note_38 (i := 0) rfl rfl rfl ?_
          refine G_bipush h dX8_note_39 kb_m2 rfl ?_
          obtain ⟨x13, hx13⟩ : ∃ x, x = f_X8_refuse E M v0 (-2 : Int32) := ⟨_, rfl⟩
          have hf := nm_eq hx13 hf
          refine cl_X8_68 h (ok_X8_refuse hE _ h0 hx13.symm) dX8_note_41 h0 (as := [.int (-2 : Int32)]) rfl rfl ⟨rfl, rfl, Nat.le_of_ble_eq_true rfl, Nat.le_of_ble_eq_true rfl⟩ rfl (Nat.le_of_ble_eq_true rfl) ?_
          exact pwI hR dX8_note_44 hf
def rm_X8_oddsOf : Room := { frames := 0, cells := 0, slots := 0, locals := 0 }
def b_X8_oddsOf_L5 (E : Env1) (M : Mem) (k5 : Int32 → Int32 → Int32 → Int64 → Int32 → (Option (Int64))) (v0 : Int32) (v1 : Int32) (v2 : Int32) (v3 : Int64) (v5 : Int32) : Option (Int64) :=
  if (6 : Int32) ≤ v5 then (some v3)
  else (
    if ((v0 >>> (v5 &&& 31)) &&& (1 : Int32)) = (1 : Int32) then (
      nm (v3 * (if ((v1 >>> (v5 &&& 31)) &&& (1 : Int32)) = (1 : Int32) then ((10 : Int32) - v2).toInt64 else v2.toInt64)) fun x4 =>
      k5 v0 v1 v2 x4 (v5 + 1))
    else (k5 v0 v1 v2 v3 (v5 + 1)))
set_option maxRecDepth 100000 in
set_option maxHeartbeats 4000000 in
theorem ob_X8_oddsOf_L5 {X : Ctx} {l0 : Launch} {E : Env1} (h : Cx X l0 E RX8 cX8_oddsOf (some .long) 6 rm_X8_oddsOf) (hE : WF E) {M : Mem} {r : Int64} (hR : RetL X E cX8_oddsOf r M) {k5 : Int32 → Int32 → Int32 → Int64 → Int32 → (Option (Int64))} (hk5 : ∀ (v0 : Int32) (v1 : Int32) (v2 : Int32) (v3 : Int64) (v5 : Int32), k5 v0 v1 v2 v3 v5 = some r → G X E (0, 0) 5 [some (.int v0), some (.int v1), some (.int v2), some (.long v3), none, some (.int v5)] [] M) {v0 : Int32} {v1 : Int32} {v2 : Int32} {v3 : Int64} {v5 : Int32}  (hf : b_X8_oddsOf_L5 E M k5 v0 v1 v2 v3 v5 = some r) : G X E (0, 0) 5 [some (.int v0), some (.int v1), some (.int v2), some (.long v3), none, some (.int v5)] [] M := by
  unfold b_X8_oddsOf_L5 at hf
  refine G_iload h dX8_oddsOf_5 rfl rfl ?_
  refine G_bipush h dX8_oddsOf_7 kb_6 rfl ?_
  refine G_icmp_ge h dX8_oddsOf_9 (tgt := 51) (by decide) rfl (fun c1 => ?_) (fun c1 => ?_)
  · have hf := it_t c1 hf
    refine G_lload_n h dX8_oddsOf_51 (i := 3) rfl rfl rfl ?_
    exact roL hR dX8_oddsOf_52 hf
  · have hf := it_f c1 hf
    refine G_iload_n h dX8_oddsOf_12 (i := 0) rfl rfl rfl ?_
    refine G_iload h dX8_oddsOf_13 rfl rfl ?_
    refine G_ishr h dX8_oddsOf_15 rfl ?_
    refine G_iconst h dX8_oddsOf_16 ki_1 rfl ?_
    refine G_iand h dX8_oddsOf_17 rfl ?_
    refine G_iconst h dX8_oddsOf_18 ki_1 rfl ?_
    refine G_icmp_ne h dX8_oddsOf_19 (tgt := 45) (by decide) rfl (fun c2 => ?_) (fun c2 => ?_)
    · have hf := it_f c2 hf
      refine G_iinc2 h dX8_oddsOf_45 rfl ki_1 (by decide) (L' := [some (.int v0), some (.int v1), some (.int v2), some (.long v3), none, some (.int (v5 + 1))]) rfl rfl ?_
      refine G_goto h dX8_oddsOf_48 (tgt := 5) (by decide) ?_
      exact hk5 _ _ _ _ _ hf
    · have hf := it_t c2 hf
      refine G_lload_n h dX8_oddsOf_22 (i := 3) rfl rfl rfl ?_
      refine G_iload_n h dX8_oddsOf_23 (i := 1) rfl rfl rfl ?_
      refine G_iload h dX8_oddsOf_24 rfl rfl ?_
      refine G_ishr h dX8_oddsOf_26 rfl ?_
      refine G_iconst h dX8_oddsOf_27 ki_1 rfl ?_
      refine G_iand h dX8_oddsOf_28 rfl ?_
      refine G_iconst h dX8_oddsOf_29 ki_1 rfl ?_
      have hJ : G X E (0, 0) 43 [some (.int v0), some (.int v1), some (.int v2), some (.long v3), none, some (.int v5)] [.long (if ((v1 >>> (v5 &&& 31)) &&& (1 : Int32)) = (1 : Int32) then ((10 : Int32) - v2).toInt64 else v2.toInt64), .long v3] M := by
        refine G_lmul h dX8_oddsOf_43 rfl ?_
        refine G_nml (fun x4 hx4 => ?_)
        have hf := nm_eq hx4 hf
        refine G_lstore_n h dX8_oddsOf_44 (i := 3) rfl (by decide) (L' := [some (.int v0), some (.int v1), some (.int v2), some (.long x4), none, some (.int v5)]) rfl rfl ?_
        refine G_iinc2 h dX8_oddsOf_45 rfl ki_1 (by decide) (L' := [some (.int v0), some (.int v1), some (.int v2), some (.long x4), none, some (.int (v5 + 1))]) rfl rfl ?_
        refine G_goto h dX8_oddsOf_48 (tgt := 5) (by decide) ?_
        exact hk5 _ _ _ _ _ hf
      refine G_icmp_ne h dX8_oddsOf_30 (tgt := 41) (by decide) rfl (fun c3 => ?_) (fun c3 => ?_)
      · refine G_iload_n h dX8_oddsOf_41 (i := 2) rfl rfl rfl ?_
        refine G_i2l h dX8_oddsOf_42 rfl ?_
        exact G_ifnl c3 hJ
      · refine G_bipush h dX8_oddsOf_33 kb_10 rfl ?_
        refine G_iload_n h dX8_oddsOf_35 (i := 2) rfl rfl rfl ?_
        refine G_isub h dX8_oddsOf_36 rfl ?_
        refine G_i2l h dX8_oddsOf_37 rfl ?_
        refine G_goto h dX8_oddsOf_38 (tgt := 43) (by decide) ?_
        exact G_ifpl c3 hJ
def f_X8_oddsOf_L5 (E : Env1) (M : Mem) : Nat → Int32 → Int32 → Int32 → Int64 → Int32 → (Option (Int64))
  | 0 => fun _ _ _ _ _ => none
  | n + 1 => b_X8_oddsOf_L5 E M (f_X8_oddsOf_L5 E M n)
theorem o_X8_oddsOf_L5 {X : Ctx} {l0 : Launch} {E : Env1} (h : Cx X l0 E RX8 cX8_oddsOf (some .long) 6 rm_X8_oddsOf) (hE : WF E) {M : Mem} {r : Int64} (hR : RetL X E cX8_oddsOf r M) : ∀ (n : Nat) (v0 : Int32) (v1 : Int32) (v2 : Int32) (v3 : Int64) (v5 : Int32), f_X8_oddsOf_L5 E M n v0 v1 v2 v3 v5 = some r → G X E (0, 0) 5 [some (.int v0), some (.int v1), some (.int v2), some (.long v3), none, some (.int v5)] [] M := by
  intro n
  induction n with
  | zero =>
    intro _ _ _ _ _  hf
    have h0 : (none : Option (Int64)) = some r := hf
    cases h0
  | succ n ih =>
    intro _ _ _ _ _  hf
    exact ob_X8_oddsOf_L5 h hE hR  ih  hf
def f_X8_oddsOf (E : Env1) (M : Mem) (v0 : Int32) (v1 : Int32) (v2 : Int32) : Option (Int64) :=
  f_X8_oddsOf_L5 E M FU v0 v1 v2 (1 : Int64) (0 : Int32)
set_option maxRecDepth 100000 in
set_option maxHeartbeats 4000000 in
theorem ok_X8_oddsOf {E : Env1} (hE : WF E) (l0 : Launch) {M : Mem} {v0 : Int32} {v1 : Int32} {v2 : Int32} {r : Int64}  (hf : f_X8_oddsOf E M v0 v1 v2 = some r) : Met l0 yX8_oddsOf (wsA yX8_oddsOf cX8_oddsOf 6 (some .long)) rm_X8_oddsOf (CP E M [.int v0, .int v1, .int v2]) (CQl E r M) 0 0 (eA E) := by
  unfold f_X8_oddsOf at hf
  refine mtL l0 (by decide +kernel) (Nat.le_of_ble_eq_true rfl) (L0 := [some (.int v0), some (.int v1), some (.int v2), none, none, none]) rfl (fun X h hR => ?_)
  refine G_lconst h dX8_oddsOf_0 kl_1 rfl ?_
  refine G_lstore_n h dX8_oddsOf_1 (i := 3) rfl (by decide) (L' := [some (.int v0), some (.int v1), some (.int v2), some (.long (1 : Int64)), none, none]) rfl rfl ?_
  refine G_iconst h dX8_oddsOf_2 ki_0 rfl ?_
  refine G_istore h dX8_oddsOf_3  (by decide) (L' := [some (.int v0), some (.int v1), some (.int v2), some (.long (1 : Int64)), none, some (.int (0 : Int32))]) rfl rfl ?_
  exact o_X8_oddsOf_L5 h hE hR  FU _ _ _ _ _ hf
def rm_X8_of : Room := { frames := 2, cells := 0, slots := 0, locals := 43 }
def f_X8_of (E : Env1) (M : Mem) (v0 : Nat) (v1 : Int32) (v2 : Int32) : Option (Int32 × Mem) :=
  if (f_X0_hasPerson E M (rr E v0 0) v1) = 0 then (
    nm (f_X8_refusePlace E M v0) fun x12 =>
    some (x12.1, x12.2))
  else (
    if v2 = 0 then (gd v1 6 (some (mi M (rr E (rr E v0 0) 1) (ix v1), M)))
    else if v2 = 1 then (gd v1 6 (some (mi M (rr E (rr E v0 0) 2) (ix v1), M)))
    else if v2 = 2 then (gd v1 6 (some (mi M (rr E (rr E (rr E v0 0) 3) 2) (ix v1), M)))
    else if v2 = 3 then (gd v1 6 (some (mi M (rr E (rr E (rr E v0 0) 3) 1) (ix v1), M)))
    else (
      nm (f_X8_refusePlace E M v0) fun x11 =>
      some (x11.1, x11.2)))
set_option maxRecDepth 100000 in
set_option maxHeartbeats 4000000 in
theorem ok_X8_of {E : Env1} (hE : WF E) (l0 : Launch) {M : Mem} {M' : Mem} {v0 : Nat} {v1 : Int32} {v2 : Int32} {r : Int32} (h0 : isK E v0 7) (hf : f_X8_of E M v0 v1 v2 = some (r, M')) : Met l0 yX8_of (wsA yX8_of cX8_of 3 (some .int)) rm_X8_of (CP E M [.ref v0, .int v1, .int v2]) (CQi E r M') 0 0 (eA E) := by
  unfold f_X8_of at hf
  refine mtI l0 (by decide +kernel) (Nat.le_of_ble_eq_true rfl) (L0 := [some (.ref v0), some (.int v1), some (.int v2)]) rfl (fun X h hR => ?_)
  refine G_aload_n h dX8_of_0 (i := 0) rfl rfl rfl ?_
  refine gf_X8_10 h hE dX8_of_1 h0 rfl ?_
  refine G_iload_n h dX8_of_4 (i := 1) rfl rfl rfl ?_
  refine cl_X8_91 h (ok_X0_hasPerson hE _ ((w_7_0 hE h0).2) (r := f_X0_hasPerson E M (rr E v0 0) v1) rfl) dX8_of_5 ((w_7_0 hE h0).2) (as := [.int v1]) rfl rfl ⟨rfl, rfl, Nat.le_of_ble_eq_true rfl, Nat.le_of_ble_eq_true rfl⟩ rfl (Nat.le_of_ble_eq_true rfl) (fun z1 => ?_)
  refine G_if_ne h dX8_of_8 (tgt := 16) (by decide) rfl (fun c2 => ?_) (fun c2 => ?_)
  · have hf := it_f c2 hf
    refine G_iload_n h dX8_of_16 (i := 2) rfl rfl rfl ?_
    by_cases c3 : v2 = 0
    · have hf := it_t c3 hf
      refine G_tsIn h dX8_of_17 c3 (v := 0) (j := 0) (by decide) (by decide) rfl (tgt := 48) (by decide) ?_
      refine G_aload_n h dX8_of_48 (i := 0) rfl rfl rfl ?_
      refine gf_X8_10 h hE dX8_of_49 h0 rfl ?_
      refine gf_X8_157 h hE dX8_of_52 ((w_7_0 hE h0).2) rfl ?_
      refine G_iload_n h dX8_of_55 (i := 1) rfl rfl rfl ?_
      obtain ⟨g4, hf⟩ := gd_some hf
      refine G_iald h dX8_of_56 ((w_0_1 hE ((w_7_0 hE h0).2)).2) g4 (jx := (ix v1)) rfl rfl ?_
      exact pwI hR dX8_of_57 hf
    have hf := it_f c3 hf
    by_cases c5 : v2 = 1
    · have hf := it_t c5 hf
      refine G_tsIn h dX8_of_17 c5 (v := 1) (j := 1) (by decide) (by decide) rfl (tgt := 58) (by decide) ?_
      refine G_aload_n h dX8_of_58 (i := 0) rfl rfl rfl ?_
      refine gf_X8_10 h hE dX8_of_59 h0 rfl ?_
      refine gf_X8_160 h hE dX8_of_62 ((w_7_0 hE h0).2) rfl ?_
      refine G_iload_n h dX8_of_65 (i := 1) rfl rfl rfl ?_
      obtain ⟨g6, hf⟩ := gd_some hf
      refine G_iald h dX8_of_66 ((w_0_2 hE ((w_7_0 hE h0).2)).2) g6 (jx := (ix v1)) rfl rfl ?_
      exact pwI hR dX8_of_67 hf
    have hf := it_f c5 hf
    by_cases c7 : v2 = 2
    · have hf := it_t c7 hf
      refine G_tsIn h dX8_of_17 c7 (v := 2) (j := 2) (by decide) (by decide) rfl (tgt := 68) (by decide) ?_
      refine G_aload_n h dX8_of_68 (i := 0) rfl rfl rfl ?_
      refine gf_X8_10 h hE dX8_of_69 h0 rfl ?_
      refine gf_X8_98 h hE dX8_of_72 ((w_7_0 hE h0).2) rfl ?_
      refine gf_X8_121 h hE dX8_of_75 ((w_0_3 hE ((w_7_0 hE h0).2)).2) rfl ?_
      refine G_iload_n h dX8_of_78 (i := 1) rfl rfl rfl ?_
      obtain ⟨g8, hf⟩ := gd_some hf
      refine G_iald h dX8_of_79 ((w_4_2 hE ((w_0_3 hE ((w_7_0 hE h0).2)).2)).2) g8 (jx := (ix v1)) rfl rfl ?_
      exact pwI hR dX8_of_80 hf
    have hf := it_f c7 hf
    by_cases c9 : v2 = 3
    · have hf := it_t c9 hf
      refine G_tsIn h dX8_of_17 c9 (v := 3) (j := 3) (by decide) (by decide) rfl (tgt := 81) (by decide) ?_
      refine G_aload_n h dX8_of_81 (i := 0) rfl rfl rfl ?_
      refine gf_X8_10 h hE dX8_of_82 h0 rfl ?_
      refine gf_X8_98 h hE dX8_of_85 ((w_7_0 hE h0).2) rfl ?_
      refine gf_X8_163 h hE dX8_of_88 ((w_0_3 hE ((w_7_0 hE h0).2)).2) rfl ?_
      refine G_iload_n h dX8_of_91 (i := 1) rfl rfl rfl ?_
      obtain ⟨g10, hf⟩ := gd_some hf
      refine G_iald h dX8_of_92 ((w_4_1 hE ((w_0_3 hE ((w_7_0 hE h0).2)).2)).2) g10 (jx := (ix v1)) rfl rfl ?_
      exact pwI hR dX8_of_93 hf
    have hf := it_f c9 hf
    have nc3 := ne_lit c3 (n := 0) (by decide)
    have nc5 := ne_lit c5 (n := 1) (by decide)
    have nc7 := ne_lit c7 (n := 2) (by decide)
    have nc9 := ne_lit c9 (n := 3) (by decide)
    refine G_tsOut h dX8_of_17 (by omega) (tgt := 94) (by decide) ?_
    refine G_aload_n h dX8_of_94 (i := 0) rfl rfl rfl ?_
    obtain ⟨x11, hx11⟩ : ∃ x, x = f_X8_refusePlace E M v0 := ⟨_, rfl⟩
    have hf := nm_eq hx11 hf
    refine cl_X8_117 h (ok_X8_refusePlace hE _ h0 hx11.symm) dX8_of_95 h0 (as := []) rfl rfl ⟨rfl, rfl, Nat.le_of_ble_eq_true rfl, Nat.le_of_ble_eq_true rfl⟩ rfl (Nat.le_of_ble_eq_true rfl) ?_
    exact pwI hR dX8_of_98 hf
  · have hf := it_t c2 hf
    refine G_aload_n h dX8_of_11 (i := 0) rfl rfl rfl ?_
    obtain ⟨x12, hx12⟩ : ∃ x, x = f_X8_refusePlace E M v0 := ⟨_, rfl⟩
    have hf := nm_eq hx12 hf
    refine cl_X8_117 h (ok_X8_refusePlace hE _ h0 hx12.symm) dX8_of_12 h0 (as := []) rfl rfl ⟨rfl, rfl, Nat.le_of_ble_eq_true rfl, Nat.le_of_ble_eq_true rfl⟩ rfl (Nat.le_of_ble_eq_true rfl) ?_
    exact pwI hR dX8_of_15 hf
def rm_X8_one : Room := { frames := 2, cells := 0, slots := 0, locals := 44 }
def f_X8_one (E : Env1) (M : Mem) (v0 : Nat) (v1 : Int32) (v2 : Int32) : Option (Int32 × Mem) :=
  if (f_X8_within E M v1 (0 : Int32) (5 : Int32)) = 0 then (
    nm (f_X8_refuse E M v0 (-2 : Int32)) fun x3 =>
    some (x3.1, x3.2))
  else (
    if (f_X8_within E M v2 (1 : Int32) (12 : Int32)) = 0 then (
      nm (f_X8_refuse E M v0 (-2 : Int32)) fun x9 =>
      some (x9.1, x9.2))
    else (
      if (mi M (rr E v0 0) 0) < (6 : Int32) then (
        (f_X0_welcome E M (rr E v0 0) v1 v2).bind fun x7 =>
        some ((mi x7 (rr E v0 0) 0) - (1 : Int32), x7))
      else (
        nm (f_X8_refuse E M v0 (-4 : Int32)) fun x8 =>
        some (x8.1, x8.2))))
set_option maxRecDepth 100000 in
set_option maxHeartbeats 4000000 in
theorem ok_X8_one {E : Env1} (hE : WF E) (l0 : Launch) {M : Mem} {M' : Mem} {v0 : Nat} {v1 : Int32} {v2 : Int32} {r : Int32} (h0 : isK E v0 7) (hf : f_X8_one E M v0 v1 v2 = some (r, M')) : Met l0 yX8_one (wsA yX8_one cX8_one 3 (some .int)) rm_X8_one (CP E M [.ref v0, .int v1, .int v2]) (CQi E r M') 0 0 (eA E) := by
  unfold f_X8_one at hf
  refine mtI l0 (by decide +kernel) (Nat.le_of_ble_eq_true rfl) (L0 := [some (.ref v0), some (.int v1), some (.int v2)]) rfl (fun X h hR => ?_)
  refine G_iload_n h dX8_one_0 (i := 1) rfl rfl rfl ?_
  refine G_iconst h dX8_one_1 ki_0 rfl ?_
  refine G_iconst h dX8_one_2 ki_5 rfl ?_
  refine cl_X8_64 h (ok_X8_within hE _  (r := f_X8_within E M v1 (0 : Int32) (5 : Int32)) rfl) dX8_one_3 (as := [.int v1, .int (0 : Int32), .int (5 : Int32)]) rfl rfl ⟨rfl, rfl, Nat.le_of_ble_eq_true rfl, Nat.le_of_ble_eq_true rfl⟩ rfl (Nat.le_of_ble_eq_true rfl) (fun z1 => ?_)
  refine G_if_eq h dX8_one_6 (tgt := 19) (by decide) rfl (fun c2 => ?_) (fun c2 => ?_)
  · have hf := it_t c2 hf
    refine G_aload_n h dX8_one_19 (i := 0) rfl rfl rfl ?_
    refine G_bipush h dX8_one_20 kb_m2 rfl ?_
    obtain ⟨x3, hx3⟩ : ∃ x, x = f_X8_refuse E M v0 (-2 : Int32) := ⟨_, rfl⟩
    have hf := nm_eq hx3 hf
    refine cl_X8_68 h (ok_X8_refuse hE _ h0 hx3.symm) dX8_one_22 h0 (as := [.int (-2 : Int32)]) rfl rfl ⟨rfl, rfl, Nat.le_of_ble_eq_true rfl, Nat.le_of_ble_eq_true rfl⟩ rfl (Nat.le_of_ble_eq_true rfl) ?_
    exact pwI hR dX8_one_25 hf
  · have hf := it_f c2 hf
    refine G_iload_n h dX8_one_9 (i := 2) rfl rfl rfl ?_
    refine G_iconst h dX8_one_10 ki_1 rfl ?_
    refine G_bipush h dX8_one_11 kb_12 rfl ?_
    refine cl_X8_64 h (ok_X8_within hE _  (r := f_X8_within E M v2 (1 : Int32) (12 : Int32)) rfl) dX8_one_13 (as := [.int v2, .int (1 : Int32), .int (12 : Int32)]) rfl rfl ⟨rfl, rfl, Nat.le_of_ble_eq_true rfl, Nat.le_of_ble_eq_true rfl⟩ rfl (Nat.le_of_ble_eq_true rfl) (fun z4 => ?_)
    refine G_if_ne h dX8_one_16 (tgt := 26) (by decide) rfl (fun c5 => ?_) (fun c5 => ?_)
    · have hf := it_f c5 hf
      refine G_aload_n h dX8_one_26 (i := 0) rfl rfl rfl ?_
      refine gf_X8_10 h hE dX8_one_27 h0 rfl ?_
      refine gf_X8_58 h dX8_one_30 ((w_7_0 hE h0).2) rfl ?_
      refine G_bipush h dX8_one_33 kb_6 rfl ?_
      refine G_icmp_lt h dX8_one_35 (tgt := 45) (by decide) rfl (fun c6 => ?_) (fun c6 => ?_)
      · have hf := it_t c6 hf
        refine G_aload_n h dX8_one_45 (i := 0) rfl rfl rfl ?_
        refine gf_X8_10 h hE dX8_one_46 h0 rfl ?_
        refine G_iload_n h dX8_one_49 (i := 1) rfl rfl rfl ?_
        refine G_iload_n h dX8_one_50 (i := 2) rfl rfl rfl ?_
        obtain ⟨x7, hx7, hf⟩ := bd hf
        refine cl_X8_72 h (ok_X0_welcome hE _ ((w_7_0 hE h0).2) hx7) dX8_one_51 ((w_7_0 hE h0).2) (as := [.int v1, .int v2]) rfl rfl ⟨rfl, rfl, Nat.le_of_ble_eq_true rfl, Nat.le_of_ble_eq_true rfl⟩ rfl (Nat.le_of_ble_eq_true rfl) ?_
        refine G_aload_n h dX8_one_54 (i := 0) rfl rfl rfl ?_
        refine gf_X8_10 h hE dX8_one_55 h0 rfl ?_
        refine gf_X8_58 h dX8_one_58 ((w_7_0 hE h0).2) rfl ?_
        refine G_iconst h dX8_one_61 ki_1 rfl ?_
        refine G_isub h dX8_one_62 rfl ?_
        exact pwI hR dX8_one_63 hf
      · have hf := it_f c6 hf
        refine G_aload_n h dX8_one_38 (i := 0) rfl rfl rfl ?_
        refine G_bipush h dX8_one_39 kb_m4 rfl ?_
        obtain ⟨x8, hx8⟩ : ∃ x, x = f_X8_refuse E M v0 (-4 : Int32) := ⟨_, rfl⟩
        have hf := nm_eq hx8 hf
        refine cl_X8_68 h (ok_X8_refuse hE _ h0 hx8.symm) dX8_one_41 h0 (as := [.int (-4 : Int32)]) rfl rfl ⟨rfl, rfl, Nat.le_of_ble_eq_true rfl, Nat.le_of_ble_eq_true rfl⟩ rfl (Nat.le_of_ble_eq_true rfl) ?_
        exact pwI hR dX8_one_44 hf
    · have hf := it_t c5 hf
      refine G_aload_n h dX8_one_19 (i := 0) rfl rfl rfl ?_
      refine G_bipush h dX8_one_20 kb_m2 rfl ?_
      obtain ⟨x9, hx9⟩ : ∃ x, x = f_X8_refuse E M v0 (-2 : Int32) := ⟨_, rfl⟩
      have hf := nm_eq hx9 hf
      refine cl_X8_68 h (ok_X8_refuse hE _ h0 hx9.symm) dX8_one_22 h0 (as := [.int (-2 : Int32)]) rfl rfl ⟨rfl, rfl, Nat.le_of_ble_eq_true rfl, Nat.le_of_ble_eq_true rfl⟩ rfl (Nat.le_of_ble_eq_true rfl) ?_
      exact pwI hR dX8_one_25 hf
def rm_X8_part : Room := { frames := 1, cells := 0, slots := 0, locals := 21 }
def f_X8_part (E : Env1) (M : Mem) (v0 : Nat) (v1 : Int32) : Int64 × Mem :=
  if v1 = 0 then (ml M v0 6, M)
  else if v1 = 1 then (ml M v0 7, M)
  else (
    nm (f_X8_refuse E M v0 (-2 : Int32)) fun x3 =>
    (x3.1.toInt64, x3.2))
set_option maxRecDepth 100000 in
set_option maxHeartbeats 4000000 in
theorem ok_X8_part {E : Env1} (hE : WF E) (l0 : Launch) {M : Mem} {M' : Mem} {v0 : Nat} {v1 : Int32} {r : Int64} (h0 : isK E v0 7) (hf : f_X8_part E M v0 v1 = (r, M')) : Met l0 yX8_part (wsA yX8_part cX8_part 2 (some .long)) rm_X8_part (CP E M [.ref v0, .int v1]) (CQl E r M') 0 0 (eA E) := by
  unfold f_X8_part at hf
  refine mtL l0 (by decide +kernel) (Nat.le_of_ble_eq_true rfl) (L0 := [some (.ref v0), some (.int v1)]) rfl (fun X h hR => ?_)
  refine G_iload_n h dX8_part_0 (i := 1) rfl rfl rfl ?_
  by_cases c1 : v1 = 0
  · have hf := it_t c1 hf
    refine G_lk h dX8_part_1 (by decide) (by rw [c1]) (tgt := 28) (by decide) ?_
    refine G_aload_n h dX8_part_28 (i := 0) rfl rfl rfl ?_
    refine gf_X8_41 h dX8_part_29 h0 rfl ?_
    exact twL hR dX8_part_32 hf
  have hf := it_f c1 hf
  by_cases c2 : v1 = 1
  · have hf := it_t c2 hf
    refine G_lk h dX8_part_1 (by decide) (by rw [c2]) (tgt := 33) (by decide) ?_
    refine G_aload_n h dX8_part_33 (i := 0) rfl rfl rfl ?_
    refine gf_X8_45 h dX8_part_34 h0 rfl ?_
    exact twL hR dX8_part_37 hf
  have hf := it_f c2 hf
  have nc1 := ne_lit c1 (n := 0) (by decide)
  have nc2 := ne_lit c2 (n := 1) (by decide)
  refine G_lk h dX8_part_1 (by decide) (off := 37) (by simp [Op.lookupswitch.offset, Ne.symm nc1, nc1, Ne.symm nc2, nc2]) (tgt := 38) (by decide) ?_
  refine G_aload_n h dX8_part_38 (i := 0) rfl rfl rfl ?_
  refine G_bipush h dX8_part_39 kb_m2 rfl ?_
  obtain ⟨x3, hx3⟩ : ∃ x, x = f_X8_refuse E M v0 (-2 : Int32) := ⟨_, rfl⟩
  have hf := nm_eq hx3 hf
  refine cl_X8_68 h (ok_X8_refuse hE _ h0 hx3.symm) dX8_part_41 h0 (as := [.int (-2 : Int32)]) rfl rfl ⟨rfl, rfl, Nat.le_of_ble_eq_true rfl, Nat.le_of_ble_eq_true rfl⟩ rfl (Nat.le_of_ble_eq_true rfl) ?_
  refine G_i2l h dX8_part_44 rfl ?_
  exact twL hR dX8_part_45 hf
def rm_X8_plan : Room := { frames := 6, cells := 0, slots := 0, locals := 144 }
def f_X8_plan (E : Env1) (M : Mem) (v0 : Nat) (v1 : Int32) (v2 : Int32) (v3 : Int32) : Option (Int32 × Mem) :=
  if (f_X0_hasPerson E M (rr E v0 0) v1) = 0 then (
    nm (f_X8_refusePlace E M v0) fun x3 =>
    some (x3.1, x3.2))
  else (
    if (f_X8_within E M v2 (0 : Int32) (8 : Int32)) = 0 then (
      nm (f_X8_refusePlace E M v0) fun x6 =>
      some (x6.1, x6.2))
    else (
      if v3 < (-2 : Int32) then (
        nm (f_X8_refusePlace E M v0) fun x8 =>
        some (x8.1, x8.2))
      else (
        if v3 = (-1 : Int32) then (
          nm (f_X8_refusePlace E M v0) fun x15 =>
          some (x15.1, x15.2))
        else (
          (f_X3_make E M (rr E v0 5) (rr E v0 0) v1 v2).bind fun x10 =>
          if x10.1 = (-1 : Int32) then (some ((-6 : Int32), x10.2))
          else (
            if v3 = (-2 : Int32) then (some (x10.1, x10.2))
            else (
              if x10.1 ≤ v3 then (some ((-5 : Int32), x10.2))
              else (
                (f_X3_deed E x10.2 (rr E v0 5) v3).bind fun x14 =>
                some (x14.1, x14.2))))))))
set_option maxRecDepth 100000 in
set_option maxHeartbeats 4000000 in
theorem ok_X8_plan {E : Env1} (hE : WF E) (l0 : Launch) {M : Mem} {M' : Mem} {v0 : Nat} {v1 : Int32} {v2 : Int32} {v3 : Int32} {r : Int32} (h0 : isK E v0 7) (hf : f_X8_plan E M v0 v1 v2 v3 = some (r, M')) : Met l0 yX8_plan (wsA yX8_plan cX8_plan 5 (some .int)) rm_X8_plan (CP E M [.ref v0, .int v1, .int v2, .int v3]) (CQi E r M') 0 0 (eA E) := by
  unfold f_X8_plan at hf
  refine mtI l0 (by decide +kernel) (Nat.le_of_ble_eq_true rfl) (L0 := [some (.ref v0), some (.int v1), some (.int v2), some (.int v3), none]) rfl (fun X h hR => ?_)
  refine G_aload_n h dX8_plan_0 (i := 0) rfl rfl rfl ?_
  refine gf_X8_10 h hE dX8_plan_1 h0 rfl ?_
  refine G_iload_n h dX8_plan_4 (i := 1) rfl rfl rfl ?_
  refine cl_X8_91 h (ok_X0_hasPerson hE _ ((w_7_0 hE h0).2) (r := f_X0_hasPerson E M (rr E v0 0) v1) rfl) dX8_plan_5 ((w_7_0 hE h0).2) (as := [.int v1]) rfl rfl ⟨rfl, rfl, Nat.le_of_ble_eq_true rfl, Nat.le_of_ble_eq_true rfl⟩ rfl (Nat.le_of_ble_eq_true rfl) (fun z1 => ?_)
  refine G_if_eq h dX8_plan_8 (tgt := 32) (by decide) rfl (fun c2 => ?_) (fun c2 => ?_)
  · have hf := it_t c2 hf
    refine G_aload_n h dX8_plan_32 (i := 0) rfl rfl rfl ?_
    obtain ⟨x3, hx3⟩ : ∃ x, x = f_X8_refusePlace E M v0 := ⟨_, rfl⟩
    have hf := nm_eq hx3 hf
    refine cl_X8_117 h (ok_X8_refusePlace hE _ h0 hx3.symm) dX8_plan_33 h0 (as := []) rfl rfl ⟨rfl, rfl, Nat.le_of_ble_eq_true rfl, Nat.le_of_ble_eq_true rfl⟩ rfl (Nat.le_of_ble_eq_true rfl) ?_
    exact pwI hR dX8_plan_36 hf
  · have hf := it_f c2 hf
    refine G_iload_n h dX8_plan_11 (i := 2) rfl rfl rfl ?_
    refine G_iconst h dX8_plan_12 ki_0 rfl ?_
    refine G_bipush h dX8_plan_13 kb_8 rfl ?_
    refine cl_X8_64 h (ok_X8_within hE _  (r := f_X8_within E M v2 (0 : Int32) (8 : Int32)) rfl) dX8_plan_15 (as := [.int v2, .int (0 : Int32), .int (8 : Int32)]) rfl rfl ⟨rfl, rfl, Nat.le_of_ble_eq_true rfl, Nat.le_of_ble_eq_true rfl⟩ rfl (Nat.le_of_ble_eq_true rfl) (fun z4 => ?_)
    refine G_if_eq h dX8_plan_18 (tgt := 32) (by decide) rfl (fun c5 => ?_) (fun c5 => ?_)
    · have hf := it_t c5 hf
      refine G_aload_n h dX8_plan_32 (i := 0) rfl rfl rfl ?_
      obtain ⟨x6, hx6⟩ : ∃ x, x = f_X8_refusePlace E M v0 := ⟨_, rfl⟩
      have hf := nm_eq hx6 hf
      refine cl_X8_117 h (ok_X8_refusePlace hE _ h0 hx6.symm) dX8_plan_33 h0 (as := []) rfl rfl ⟨rfl, rfl, Nat.le_of_ble_eq_true rfl, Nat.le_of_ble_eq_true rfl⟩ rfl (Nat.le_of_ble_eq_true rfl) ?_
      exact pwI hR dX8_plan_36 hf
    · have hf := it_f c5 hf
      refine G_iload_n h dX8_plan_21 (i := 3) rfl rfl rfl ?_
      refine G_bipush h dX8_plan_22 kb_m2 rfl ?_
      refine G_icmp_lt h dX8_plan_24 (tgt := 32) (by decide) rfl (fun c7 => ?_) (fun c7 => ?_)
      · have hf := it_t c7 hf
        refine G_aload_n h dX8_plan_32 (i := 0) rfl rfl rfl ?_
        obtain ⟨x8, hx8⟩ : ∃ x, x = f_X8_refusePlace E M v0 := ⟨_, rfl⟩
        have hf := nm_eq hx8 hf
        refine cl_X8_117 h (ok_X8_refusePlace hE _ h0 hx8.symm) dX8_plan_33 h0 (as := []) rfl rfl ⟨rfl, rfl, Nat.le_of_ble_eq_true rfl, Nat.le_of_ble_eq_true rfl⟩ rfl (Nat.le_of_ble_eq_true rfl) ?_
        exact pwI hR dX8_plan_36 hf
      · have hf := it_f c7 hf
        refine G_iload_n h dX8_plan_27 (i := 3) rfl rfl rfl ?_
        refine G_iconst h dX8_plan_28 ki_m1 rfl ?_
        refine G_icmp_ne h dX8_plan_29 (tgt := 37) (by decide) rfl (fun c9 => ?_) (fun c9 => ?_)
        · have hf := it_f c9 hf
          refine G_aload_n h dX8_plan_37 (i := 0) rfl rfl rfl ?_
          refine gf_X8_37 h hE dX8_plan_38 h0 rfl ?_
          refine G_aload_n h dX8_plan_41 (i := 0) rfl rfl rfl ?_
          refine gf_X8_10 h hE dX8_plan_42 h0 rfl ?_
          refine G_iload_n h dX8_plan_45 (i := 1) rfl rfl rfl ?_
          refine G_iload_n h dX8_plan_46 (i := 2) rfl rfl rfl ?_
          obtain ⟨x10, hx10, hf⟩ := bd hf
          refine cl_X8_193 h (ok_X3_make hE _ ((w_7_5 hE h0).2) ((w_7_0 hE h0).2) hx10) dX8_plan_47 ((w_7_5 hE h0).2) (as := [.ref (rr E v0 0), .int v1, .int v2]) rfl rfl ⟨rfl, rfl, Nat.le_of_ble_eq_true rfl, Nat.le_of_ble_eq_true rfl⟩ rfl (Nat.le_of_ble_eq_true rfl) ?_
          refine G_istore h dX8_plan_50  (by decide) (L' := [some (.ref v0), some (.int v1), some (.int v2), some (.int v3), some (.int x10.1)]) rfl rfl ?_
          refine G_iload h dX8_plan_52 rfl rfl ?_
          refine G_iconst h dX8_plan_54 ki_m1 rfl ?_
          refine G_icmp_ne h dX8_plan_55 (tgt := 61) (by decide) rfl (fun c11 => ?_) (fun c11 => ?_)
          · have hf := it_f c11 hf
            refine G_iload_n h dX8_plan_61 (i := 3) rfl rfl rfl ?_
            refine G_bipush h dX8_plan_62 kb_m2 rfl ?_
            refine G_icmp_ne h dX8_plan_64 (tgt := 70) (by decide) rfl (fun c12 => ?_) (fun c12 => ?_)
            · have hf := it_f c12 hf
              refine G_iload_n h dX8_plan_70 (i := 3) rfl rfl rfl ?_
              refine G_iload h dX8_plan_71 rfl rfl ?_
              refine G_icmp_ge h dX8_plan_73 (tgt := 87) (by decide) rfl (fun c13 => ?_) (fun c13 => ?_)
              · have hf := it_t c13 hf
                refine G_bipush h dX8_plan_87 kb_m5 rfl ?_
                exact pwI hR dX8_plan_89 hf
              · have hf := it_f c13 hf
                refine G_aload_n h dX8_plan_76 (i := 0) rfl rfl rfl ?_
                refine gf_X8_37 h hE dX8_plan_77 h0 rfl ?_
                refine G_iload_n h dX8_plan_80 (i := 3) rfl rfl rfl ?_
                obtain ⟨x14, hx14, hf⟩ := bd hf
                refine cl_X8_197 h (ok_X3_deed hE _ ((w_7_5 hE h0).2) hx14) dX8_plan_81 ((w_7_5 hE h0).2) (as := [.int v3]) rfl rfl ⟨rfl, rfl, Nat.le_of_ble_eq_true rfl, Nat.le_of_ble_eq_true rfl⟩ rfl (Nat.le_of_ble_eq_true rfl) ?_
                refine G_goto h dX8_plan_84 (tgt := 89) (by decide) ?_
                exact pwI hR dX8_plan_89 hf
            · have hf := it_t c12 hf
              refine G_iload h dX8_plan_67 rfl rfl ?_
              exact pwI hR dX8_plan_69 hf
          · have hf := it_t c11 hf
            refine G_bipush h dX8_plan_58 kb_m6 rfl ?_
            exact pwI hR dX8_plan_60 hf
        · have hf := it_t c9 hf
          refine G_aload_n h dX8_plan_32 (i := 0) rfl rfl rfl ?_
          obtain ⟨x15, hx15⟩ : ∃ x, x = f_X8_refusePlace E M v0 := ⟨_, rfl⟩
          have hf := nm_eq hx15 hf
          refine cl_X8_117 h (ok_X8_refusePlace hE _ h0 hx15.symm) dX8_plan_33 h0 (as := []) rfl rfl ⟨rfl, rfl, Nat.le_of_ble_eq_true rfl, Nat.le_of_ble_eq_true rfl⟩ rfl (Nat.le_of_ble_eq_true rfl) ?_
          exact pwI hR dX8_plan_36 hf
def rm_X8_read : Room := { frames := 8, cells := 0, slots := 0, locals := 171 }
def f_X8_read (E : Env1) (M : Mem) (v0 : Nat) : Option (Int32 × Mem) :=
  (f_X7_readInto E M (rr E v0 4) (rr E v0 1)).bind fun x1 =>
  if x1.1 ≤ 0 then (some (x1.1, x1.2))
  else (
    (f_X0_copyFrom E x1.2 (rr E v0 0) (rr E v0 1)).bind fun x3 =>
    some (x1.1, x3))
set_option maxRecDepth 100000 in
set_option maxHeartbeats 4000000 in
theorem ok_X8_read {E : Env1} (hE : WF E) (l0 : Launch) {M : Mem} {M' : Mem} {v0 : Nat} {r : Int32} (h0 : isK E v0 7) (hf : f_X8_read E M v0 = some (r, M')) : Met l0 yX8_read (wsA yX8_read cX8_read 2 (some .int)) rm_X8_read (CP E M [.ref v0]) (CQi E r M') 0 0 (eA E) := by
  unfold f_X8_read at hf
  refine mtI l0 (by decide +kernel) (Nat.le_of_ble_eq_true rfl) (L0 := [some (.ref v0), none]) rfl (fun X h hR => ?_)
  refine G_aload_n h dX8_read_0 (i := 0) rfl rfl rfl ?_
  refine gf_X8_30 h hE dX8_read_1 h0 rfl ?_
  refine G_aload_n h dX8_read_4 (i := 0) rfl rfl rfl ?_
  refine gf_X8_16 h hE dX8_read_5 h0 rfl ?_
  obtain ⟨x1, hx1, hf⟩ := bd hf
  refine cl_X8_83 h (ok_X7_readInto hE _ ((w_7_4 hE h0).2) ((w_7_1 hE h0).2) hx1) dX8_read_8 ((w_7_4 hE h0).2) (as := [.ref (rr E v0 1)]) rfl rfl ⟨rfl, rfl, Nat.le_of_ble_eq_true rfl, Nat.le_of_ble_eq_true rfl⟩ rfl (Nat.le_of_ble_eq_true rfl) ?_
  refine G_istore_n h dX8_read_11 (i := 1) rfl (by decide) (L' := [some (.ref v0), some (.int x1.1)]) rfl rfl ?_
  refine G_iload_n h dX8_read_12 (i := 1) rfl rfl rfl ?_
  refine G_if_le h dX8_read_13 (tgt := 27) (by decide) rfl (fun c2 => ?_) (fun c2 => ?_)
  · have hf := it_t c2 hf
    refine G_iload_n h dX8_read_27 (i := 1) rfl rfl rfl ?_
    exact pwI hR dX8_read_28 hf
  · have hf := it_f c2 hf
    refine G_aload_n h dX8_read_16 (i := 0) rfl rfl rfl ?_
    refine gf_X8_10 h hE dX8_read_17 h0 rfl ?_
    refine G_aload_n h dX8_read_20 (i := 0) rfl rfl rfl ?_
    refine gf_X8_16 h hE dX8_read_21 h0 rfl ?_
    obtain ⟨x3, hx3, hf⟩ := bd hf
    refine cl_X8_87 h (ok_X0_copyFrom hE _ ((w_7_0 hE h0).2) ((w_7_1 hE h0).2) hx3) dX8_read_24 ((w_7_0 hE h0).2) (as := [.ref (rr E v0 1)]) rfl rfl ⟨rfl, rfl, Nat.le_of_ble_eq_true rfl, Nat.le_of_ble_eq_true rfl⟩ rfl (Nat.le_of_ble_eq_true rfl) ?_
    refine G_iload_n h dX8_read_27 (i := 1) rfl rfl rfl ?_
    exact pwI hR dX8_read_28 hf
def rm_X8_seen : Room := { frames := 3, cells := 0, slots := 0, locals := 72 }
def f_X8_seen (E : Env1) (M : Mem) (v0 : Nat) (v1 : Int32) (v2 : Int32) (v3 : Int32) : Option (Int32 × Mem) :=
  if (f_X0_hasPerson E M (rr E v0 0) v1) = 0 then (
    nm (f_X8_refuse E M v0 (-2 : Int32)) fun x3 =>
    some (x3.1, x3.2))
  else (
    if (f_X8_isStep E M v2) = 0 then (
      nm (f_X8_refuse E M v0 (-2 : Int32)) fun x6 =>
      some (x6.1, x6.2))
    else (
      if (f_X8_within E M v3 (0 : Int32) (1 : Int32)) = 0 then (
        nm (f_X8_refuse E M v0 (-2 : Int32)) fun x10 =>
        some (x10.1, x10.2))
      else (
        (f_X8_add E M v0 (rr E (rr E v0 0) 6) v1 v2 v3 (0 : Int32)).bind fun x9 =>
        some (x9.1, x9.2))))
set_option maxRecDepth 100000 in
set_option maxHeartbeats 4000000 in
theorem ok_X8_seen {E : Env1} (hE : WF E) (l0 : Launch) {M : Mem} {M' : Mem} {v0 : Nat} {v1 : Int32} {v2 : Int32} {v3 : Int32} {r : Int32} (h0 : isK E v0 7) (hf : f_X8_seen E M v0 v1 v2 v3 = some (r, M')) : Met l0 yX8_seen (wsA yX8_seen cX8_seen 4 (some .int)) rm_X8_seen (CP E M [.ref v0, .int v1, .int v2, .int v3]) (CQi E r M') 0 0 (eA E) := by
  unfold f_X8_seen at hf
  refine mtI l0 (by decide +kernel) (Nat.le_of_ble_eq_true rfl) (L0 := [some (.ref v0), some (.int v1), some (.int v2), some (.int v3)]) rfl (fun X h hR => ?_)
  refine G_aload_n h dX8_seen_0 (i := 0) rfl rfl rfl ?_
  refine gf_X8_10 h hE dX8_seen_1 h0 rfl ?_
  refine G_iload_n h dX8_seen_4 (i := 1) rfl rfl rfl ?_
  refine cl_X8_91 h (ok_X0_hasPerson hE _ ((w_7_0 hE h0).2) (r := f_X0_hasPerson E M (rr E v0 0) v1) rfl) dX8_seen_5 ((w_7_0 hE h0).2) (as := [.int v1]) rfl rfl ⟨rfl, rfl, Nat.le_of_ble_eq_true rfl, Nat.le_of_ble_eq_true rfl⟩ rfl (Nat.le_of_ble_eq_true rfl) (fun z1 => ?_)
  refine G_if_eq h dX8_seen_8 (tgt := 27) (by decide) rfl (fun c2 => ?_) (fun c2 => ?_)
  · have hf := it_t c2 hf
    refine G_aload_n h dX8_seen_27 (i := 0) rfl rfl rfl ?_
    refine G_bipush h dX8_seen_28 kb_m2 rfl ?_
    obtain ⟨x3, hx3⟩ : ∃ x, x = f_X8_refuse E M v0 (-2 : Int32) := ⟨_, rfl⟩
    have hf := nm_eq hx3 hf
    refine cl_X8_68 h (ok_X8_refuse hE _ h0 hx3.symm) dX8_seen_30 h0 (as := [.int (-2 : Int32)]) rfl rfl ⟨rfl, rfl, Nat.le_of_ble_eq_true rfl, Nat.le_of_ble_eq_true rfl⟩ rfl (Nat.le_of_ble_eq_true rfl) ?_
    exact pwI hR dX8_seen_33 hf
  · have hf := it_f c2 hf
    refine G_iload_n h dX8_seen_11 (i := 2) rfl rfl rfl ?_
    refine cl_X8_95 h (ok_X8_isStep hE _  (r := f_X8_isStep E M v2) rfl) dX8_seen_12 (as := [.int v2]) rfl rfl ⟨rfl, rfl, Nat.le_of_ble_eq_true rfl, Nat.le_of_ble_eq_true rfl⟩ rfl (Nat.le_of_ble_eq_true rfl) (fun z4 => ?_)
    refine G_if_eq h dX8_seen_15 (tgt := 27) (by decide) rfl (fun c5 => ?_) (fun c5 => ?_)
    · have hf := it_t c5 hf
      refine G_aload_n h dX8_seen_27 (i := 0) rfl rfl rfl ?_
      refine G_bipush h dX8_seen_28 kb_m2 rfl ?_
      obtain ⟨x6, hx6⟩ : ∃ x, x = f_X8_refuse E M v0 (-2 : Int32) := ⟨_, rfl⟩
      have hf := nm_eq hx6 hf
      refine cl_X8_68 h (ok_X8_refuse hE _ h0 hx6.symm) dX8_seen_30 h0 (as := [.int (-2 : Int32)]) rfl rfl ⟨rfl, rfl, Nat.le_of_ble_eq_true rfl, Nat.le_of_ble_eq_true rfl⟩ rfl (Nat.le_of_ble_eq_true rfl) ?_
      exact pwI hR dX8_seen_33 hf
    · have hf := it_f c5 hf
      refine G_iload_n h dX8_seen_18 (i := 3) rfl rfl rfl ?_
      refine G_iconst h dX8_seen_19 ki_0 rfl ?_
      refine G_iconst h dX8_seen_20 ki_1 rfl ?_
      refine cl_X8_64 h (ok_X8_within hE _  (r := f_X8_within E M v3 (0 : Int32) (1 : Int32)) rfl) dX8_seen_21 (as := [.int v3, .int (0 : Int32), .int (1 : Int32)]) rfl rfl ⟨rfl, rfl, Nat.le_of_ble_eq_true rfl, Nat.le_of_ble_eq_true rfl⟩ rfl (Nat.le_of_ble_eq_true rfl) (fun z7 => ?_)
      refine G_if_ne h dX8_seen_24 (tgt := 34) (by decide) rfl (fun c8 => ?_) (fun c8 => ?_)
      · have hf := it_f c8 hf
        refine G_aload_n h dX8_seen_34 (i := 0) rfl rfl rfl ?_
        refine G_aload_n h dX8_seen_35 (i := 0) rfl rfl rfl ?_
        refine gf_X8_10 h hE dX8_seen_36 h0 rfl ?_
        refine gf_X8_200 h hE dX8_seen_39 ((w_7_0 hE h0).2) rfl ?_
        refine G_iload_n h dX8_seen_42 (i := 1) rfl rfl rfl ?_
        refine G_iload_n h dX8_seen_43 (i := 2) rfl rfl rfl ?_
        refine G_iload_n h dX8_seen_44 (i := 3) rfl rfl rfl ?_
        refine G_iconst h dX8_seen_45 ki_0 rfl ?_
        obtain ⟨x9, hx9, hf⟩ := bd hf
        refine cl_X8_204 h (ok_X8_add hE _ h0 ((w_0_6 hE ((w_7_0 hE h0).2)).2) hx9) dX8_seen_46 h0 (as := [.ref (rr E (rr E v0 0) 6), .int v1, .int v2, .int v3, .int (0 : Int32)]) rfl rfl ⟨rfl, rfl, Nat.le_of_ble_eq_true rfl, Nat.le_of_ble_eq_true rfl⟩ rfl (Nat.le_of_ble_eq_true rfl) ?_
        exact pwI hR dX8_seen_49 hf
      · have hf := it_t c8 hf
        refine G_aload_n h dX8_seen_27 (i := 0) rfl rfl rfl ?_
        refine G_bipush h dX8_seen_28 kb_m2 rfl ?_
        obtain ⟨x10, hx10⟩ : ∃ x, x = f_X8_refuse E M v0 (-2 : Int32) := ⟨_, rfl⟩
        have hf := nm_eq hx10 hf
        refine cl_X8_68 h (ok_X8_refuse hE _ h0 hx10.symm) dX8_seen_30 h0 (as := [.int (-2 : Int32)]) rfl rfl ⟨rfl, rfl, Nat.le_of_ble_eq_true rfl, Nat.le_of_ble_eq_true rfl⟩ rfl (Nat.le_of_ble_eq_true rfl) ?_
        exact pwI hR dX8_seen_33 hf
def rm_X8_slips : Room := { frames := 4, cells := 0, slots := 0, locals := 95 }
def b_X8_slips_L55 (E : Env1) (k55 : Mem → Nat → Int32 → Int32 → Int32 → Int32 → Int64 → Int64 → Int32 → (Option (Int32 × Mem))) (M : Mem) (v0 : Nat) (v1 : Int32) (v2 : Int32) (v3 : Int32) (v4 : Int32) (v5 : Int64) (v7 : Int64) (v9 : Int32) : Option (Int32 × Mem) :=
  if (64 : Int32) ≤ v9 then (
    (f_X8_keepFraction E M v0 v5 v7).bind fun x2 =>
    some ((1 : Int32), x2))
  else (
    if (v9 &&& v4) = v9 then (
      (f_X8_oddsOf E M v4 v9 v3).bind fun x4 =>
      (f_X0_couldMeet E M (rr E v0 0) v1 v2 v9 (mi M (rr E (rr E v0 0) 3) 4)).bind fun x6 =>
      nm (v5 + (if x6 = 0 then (0 : Int64) else x4)) fun x8 =>
      k55 M v0 v1 v2 v3 v4 x8 (v7 + x4) (v9 + 1))
    else (k55 M v0 v1 v2 v3 v4 v5 v7 (v9 + 1)))
set_option maxRecDepth 100000 in
set_option maxHeartbeats 4000000 in
theorem ob_X8_slips_L55 {X : Ctx} {l0 : Launch} {E : Env1} (h : Cx X l0 E RX8 cX8_slips (some .int) 12 rm_X8_slips) (hE : WF E) {M' : Mem} {r : Int32} (hR : RetI X E cX8_slips r M') {k55 : Mem → Nat → Int32 → Int32 → Int32 → Int32 → Int64 → Int64 → Int32 → (Option (Int32 × Mem))} (hk55 : ∀ (M : Mem) (v0 : Nat) (v1 : Int32) (v2 : Int32) (v3 : Int32) (v4 : Int32) (v5 : Int64) (v7 : Int64) (v9 : Int32), isK E v0 7 → k55 M v0 v1 v2 v3 v4 v5 v7 v9 = some (r, M') → G X E (0, 0) 55 [some (.ref v0), some (.int v1), some (.int v2), some (.int v3), some (.int v4), some (.long v5), none, some (.long v7), none, some (.int v9), none, none] [] M) {M : Mem} {v0 : Nat} {v1 : Int32} {v2 : Int32} {v3 : Int32} {v4 : Int32} {v5 : Int64} {v7 : Int64} {v9 : Int32} (h_v0 : isK E v0 7) (hf : b_X8_slips_L55 E k55 M v0 v1 v2 v3 v4 v5 v7 v9 = some (r, M')) : G X E (0, 0) 55 [some (.ref v0), some (.int v1), some (.int v2), some (.int v3), some (.int v4), some (.long v5), none, some (.long v7), none, some (.int v9), none, none] [] M := by
  unfold b_X8_slips_L55 at hf
  refine G_iload h dX8_slips_55 rfl rfl ?_
  refine G_bipush h dX8_slips_57 kb_64 rfl ?_
  refine G_icmp_ge h dX8_slips_59 (tgt := 130) (by decide) rfl (fun c1 => ?_) (fun c1 => ?_)
  · have hf := it_t c1 hf
    refine G_aload_n h dX8_slips_130 (i := 0) rfl rfl rfl ?_
    refine G_lload h dX8_slips_131 rfl rfl ?_
    refine G_lload h dX8_slips_133 rfl rfl ?_
    obtain ⟨x2, hx2, hf⟩ := bd hf
    refine cl_X8_251 h (ok_X8_keepFraction hE _ h_v0 hx2) dX8_slips_135 h_v0 (as := [.long v5, .long v7]) rfl rfl ⟨rfl, rfl, Nat.le_of_ble_eq_true rfl, Nat.le_of_ble_eq_true rfl⟩ rfl (Nat.le_of_ble_eq_true rfl) ?_
    refine G_iconst h dX8_slips_138 ki_1 rfl ?_
    exact pwI hR dX8_slips_139 hf
  · have hf := it_f c1 hf
    refine G_iload h dX8_slips_62 rfl rfl ?_
    refine G_iload h dX8_slips_64 rfl rfl ?_
    refine G_iand h dX8_slips_66 rfl ?_
    refine G_iload h dX8_slips_67 rfl rfl ?_
    refine G_icmp_ne h dX8_slips_69 (tgt := 124) (by decide) rfl (fun c3 => ?_) (fun c3 => ?_)
    · have hf := it_f c3 hf
      refine G_iinc2 h dX8_slips_124 rfl ki_1 (by decide) (L' := [some (.ref v0), some (.int v1), some (.int v2), some (.int v3), some (.int v4), some (.long v5), none, some (.long v7), none, some (.int (v9 + 1)), none, none]) rfl rfl ?_
      refine G_goto h dX8_slips_127 (tgt := 55) (by decide) ?_
      exact hk55 _ _ _ _ _ _ _ _ _ h_v0 hf
    · have hf := it_t c3 hf
      refine G_iload h dX8_slips_72 rfl rfl ?_
      refine G_iload h dX8_slips_74 rfl rfl ?_
      refine G_iload_n h dX8_slips_76 (i := 3) rfl rfl rfl ?_
      obtain ⟨x4, hx4, hf⟩ := bd hf
      refine cl_X8_247 h (ok_X8_oddsOf hE _  hx4) dX8_slips_77 (as := [.int v4, .int v9, .int v3]) rfl rfl ⟨rfl, rfl, Nat.le_of_ble_eq_true rfl, Nat.le_of_ble_eq_true rfl⟩ rfl (Nat.le_of_ble_eq_true rfl) ?_
      refine G_lstore h dX8_slips_80  (by decide) (L' := [some (.ref v0), some (.int v1), some (.int v2), some (.int v3), some (.int v4), some (.long v5), none, some (.long v7), none, some (.int v9), some (.long x4), none]) rfl rfl ?_
      refine G_lload h dX8_slips_82 rfl rfl ?_
      refine G_lload h dX8_slips_84 rfl rfl ?_
      refine G_ladd h dX8_slips_86 rfl ?_
      refine G_lstore h dX8_slips_87  (by decide) (L' := [some (.ref v0), some (.int v1), some (.int v2), some (.int v3), some (.int v4), some (.long v5), none, some (.long (v7 + x4)), none, some (.int v9), some (.long x4), none]) rfl rfl ?_
      refine G_lload h dX8_slips_89 rfl rfl ?_
      refine G_aload_n h dX8_slips_91 (i := 0) rfl rfl rfl ?_
      refine gf_X8_10 h hE dX8_slips_92 h_v0 rfl ?_
      refine G_iload_n h dX8_slips_95 (i := 1) rfl rfl rfl ?_
      refine G_iload_n h dX8_slips_96 (i := 2) rfl rfl rfl ?_
      refine G_iload h dX8_slips_97 rfl rfl ?_
      refine G_aload_n h dX8_slips_99 (i := 0) rfl rfl rfl ?_
      refine gf_X8_10 h hE dX8_slips_100 h_v0 rfl ?_
      refine gf_X8_98 h hE dX8_slips_103 ((w_7_0 hE h_v0).2) rfl ?_
      refine gf_X8_108 h dX8_slips_106 ((w_0_3 hE ((w_7_0 hE h_v0).2)).2) rfl ?_
      obtain ⟨x6, hx6, hf⟩ := bd hf
      refine cl_X8_180 h (ok_X0_couldMeet hE _ ((w_7_0 hE h_v0).2) hx6) dX8_slips_109 ((w_7_0 hE h_v0).2) (as := [.int v1, .int v2, .int v9, .int (mi M (rr E (rr E v0 0) 3) 4)]) rfl rfl ⟨rfl, rfl, Nat.le_of_ble_eq_true rfl, Nat.le_of_ble_eq_true rfl⟩ rfl (Nat.le_of_ble_eq_true rfl) (fun z5 => ?_)
      have hJ : G X E (0, 0) 121 [some (.ref v0), some (.int v1), some (.int v2), some (.int v3), some (.int v4), some (.long v5), none, some (.long (v7 + x4)), none, some (.int v9), some (.long x4), none] [.long (if x6 = 0 then (0 : Int64) else x4), .long v5] M := by
        refine G_ladd h dX8_slips_121 rfl ?_
        refine G_nml (fun x8 hx8 => ?_)
        have hf := nm_eq hx8 hf
        refine G_lstore h dX8_slips_122  (by decide) (L' := [some (.ref v0), some (.int v1), some (.int v2), some (.int v3), some (.int v4), some (.long x8), none, some (.long (v7 + x4)), none, some (.int v9), some (.long x4), none]) rfl rfl ?_
        refine G_iinc2 h dX8_slips_124 rfl ki_1 (by decide) (L' := [some (.ref v0), some (.int v1), some (.int v2), some (.int v3), some (.int v4), some (.long x8), none, some (.long (v7 + x4)), none, some (.int (v9 + 1)), some (.long x4), none]) rfl rfl ?_
        refine G_goto h dX8_slips_127 (tgt := 55) (by decide) ?_
        refine G_mskL [true, true, true, true, true, true, false, true, false, true, false, false] (L' := [some (.ref v0), some (.int v1), some (.int v2), some (.int v3), some (.int v4), some (.long x8), none, some (.long (v7 + x4)), none, some (.int (v9 + 1)), none, none]) rfl ?_
        exact hk55 _ _ _ _ _ _ _ _ _ h_v0 hf
      refine G_if_eq h dX8_slips_112 (tgt := 120) (by decide) rfl (fun c7 => ?_) (fun c7 => ?_)
      · refine G_lconst h dX8_slips_120 kl_0 rfl ?_
        exact G_ifpl c7 hJ
      · refine G_lload h dX8_slips_115 rfl rfl ?_
        refine G_goto h dX8_slips_117 (tgt := 121) (by decide) ?_
        exact G_ifnl c7 hJ
def f_X8_slips_L55 (E : Env1) : Nat → Mem → Nat → Int32 → Int32 → Int32 → Int32 → Int64 → Int64 → Int32 → (Option (Int32 × Mem))
  | 0 => fun _ _ _ _ _ _ _ _ _ => none
  | n + 1 => b_X8_slips_L55 E (f_X8_slips_L55 E n)
theorem o_X8_slips_L55 {X : Ctx} {l0 : Launch} {E : Env1} (h : Cx X l0 E RX8 cX8_slips (some .int) 12 rm_X8_slips) (hE : WF E) {M' : Mem} {r : Int32} (hR : RetI X E cX8_slips r M') : ∀ (n : Nat) (M : Mem) (v0 : Nat) (v1 : Int32) (v2 : Int32) (v3 : Int32) (v4 : Int32) (v5 : Int64) (v7 : Int64) (v9 : Int32), isK E v0 7 → f_X8_slips_L55 E n M v0 v1 v2 v3 v4 v5 v7 v9 = some (r, M') → G X E (0, 0) 55 [some (.ref v0), some (.int v1), some (.int v2), some (.int v3), some (.int v4), some (.long v5), none, some (.long v7), none, some (.int v9), none, none] [] M := by
  intro n
  induction n with
  | zero =>
    intro _ _ _ _ _ _ _ _ _ a0 hf
    have h0 : (none : Option (Int32 × Mem)) = some (r, M') := hf
    cases h0
  | succ n ih =>
    intro _ _ _ _ _ _ _ _ _ a0 hf
    exact ob_X8_slips_L55 h hE hR  ih a0 hf
def f_X8_slips (E : Env1) (M : Mem) (v0 : Nat) (v1 : Int32) (v2 : Int32) (v3 : Int32) : Option (Int32 × Mem) :=
  if (f_X0_hasPerson E M (rr E v0 0) v1) = 0 then (
    nm (f_X8_refuse E M v0 (-2 : Int32)) fun x3 =>
    some (x3.1, x3.2))
  else (
    if (f_X8_isStep E M v2) = 0 then (
      nm (f_X8_refuse E M v0 (-2 : Int32)) fun x6 =>
      some (x6.1, x6.2))
    else (
      if (f_X8_within E M v3 (0 : Int32) (10 : Int32)) = 0 then (
        nm (f_X8_refuse E M v0 (-2 : Int32)) fun x10 =>
        some (x10.1, x10.2))
      else (
        (f_X0_othersWhoKnow E M (rr E v0 0) v1 v2).bind fun x9 =>
        f_X8_slips_L55 E FU M v0 v1 v2 v3 x9 (0 : Int64) (0 : Int64) (0 : Int32))))
set_option maxRecDepth 100000 in
set_option maxHeartbeats 4000000 in
theorem ok_X8_slips {E : Env1} (hE : WF E) (l0 : Launch) {M : Mem} {M' : Mem} {v0 : Nat} {v1 : Int32} {v2 : Int32} {v3 : Int32} {r : Int32} (h0 : isK E v0 7) (hf : f_X8_slips E M v0 v1 v2 v3 = some (r, M')) : Met l0 yX8_slips (wsA yX8_slips cX8_slips 12 (some .int)) rm_X8_slips (CP E M [.ref v0, .int v1, .int v2, .int v3]) (CQi E r M') 0 0 (eA E) := by
  unfold f_X8_slips at hf
  refine mtI l0 (by decide +kernel) (Nat.le_of_ble_eq_true rfl) (L0 := [some (.ref v0), some (.int v1), some (.int v2), some (.int v3), none, none, none, none, none, none, none, none]) rfl (fun X h hR => ?_)
  refine G_aload_n h dX8_slips_0 (i := 0) rfl rfl rfl ?_
  refine gf_X8_10 h hE dX8_slips_1 h0 rfl ?_
  refine G_iload_n h dX8_slips_4 (i := 1) rfl rfl rfl ?_
  refine cl_X8_91 h (ok_X0_hasPerson hE _ ((w_7_0 hE h0).2) (r := f_X0_hasPerson E M (rr E v0 0) v1) rfl) dX8_slips_5 ((w_7_0 hE h0).2) (as := [.int v1]) rfl rfl ⟨rfl, rfl, Nat.le_of_ble_eq_true rfl, Nat.le_of_ble_eq_true rfl⟩ rfl (Nat.le_of_ble_eq_true rfl) (fun z1 => ?_)
  refine G_if_eq h dX8_slips_8 (tgt := 28) (by decide) rfl (fun c2 => ?_) (fun c2 => ?_)
  · have hf := it_t c2 hf
    refine G_aload_n h dX8_slips_28 (i := 0) rfl rfl rfl ?_
    refine G_bipush h dX8_slips_29 kb_m2 rfl ?_
    obtain ⟨x3, hx3⟩ : ∃ x, x = f_X8_refuse E M v0 (-2 : Int32) := ⟨_, rfl⟩
    have hf := nm_eq hx3 hf
    refine cl_X8_68 h (ok_X8_refuse hE _ h0 hx3.symm) dX8_slips_31 h0 (as := [.int (-2 : Int32)]) rfl rfl ⟨rfl, rfl, Nat.le_of_ble_eq_true rfl, Nat.le_of_ble_eq_true rfl⟩ rfl (Nat.le_of_ble_eq_true rfl) ?_
    exact pwI hR dX8_slips_34 hf
  · have hf := it_f c2 hf
    refine G_iload_n h dX8_slips_11 (i := 2) rfl rfl rfl ?_
    refine cl_X8_95 h (ok_X8_isStep hE _  (r := f_X8_isStep E M v2) rfl) dX8_slips_12 (as := [.int v2]) rfl rfl ⟨rfl, rfl, Nat.le_of_ble_eq_true rfl, Nat.le_of_ble_eq_true rfl⟩ rfl (Nat.le_of_ble_eq_true rfl) (fun z4 => ?_)
    refine G_if_eq h dX8_slips_15 (tgt := 28) (by decide) rfl (fun c5 => ?_) (fun c5 => ?_)
    · have hf := it_t c5 hf
      refine G_aload_n h dX8_slips_28 (i := 0) rfl rfl rfl ?_
      refine G_bipush h dX8_slips_29 kb_m2 rfl ?_
      obtain ⟨x6, hx6⟩ : ∃ x, x = f_X8_refuse E M v0 (-2 : Int32) := ⟨_, rfl⟩
      have hf := nm_eq hx6 hf
      refine cl_X8_68 h (ok_X8_refuse hE _ h0 hx6.symm) dX8_slips_31 h0 (as := [.int (-2 : Int32)]) rfl rfl ⟨rfl, rfl, Nat.le_of_ble_eq_true rfl, Nat.le_of_ble_eq_true rfl⟩ rfl (Nat.le_of_ble_eq_true rfl) ?_
      exact pwI hR dX8_slips_34 hf
    · have hf := it_f c5 hf
      refine G_iload_n h dX8_slips_18 (i := 3) rfl rfl rfl ?_
      refine G_iconst h dX8_slips_19 ki_0 rfl ?_
      refine G_bipush h dX8_slips_20 kb_10 rfl ?_
      refine cl_X8_64 h (ok_X8_within hE _  (r := f_X8_within E M v3 (0 : Int32) (10 : Int32)) rfl) dX8_slips_22 (as := [.int v3, .int (0 : Int32), .int (10 : Int32)]) rfl rfl ⟨rfl, rfl, Nat.le_of_ble_eq_true rfl, Nat.le_of_ble_eq_true rfl⟩ rfl (Nat.le_of_ble_eq_true rfl) (fun z7 => ?_)
      refine G_if_ne h dX8_slips_25 (tgt := 35) (by decide) rfl (fun c8 => ?_) (fun c8 => ?_)
      · have hf := it_f c8 hf
        refine G_aload_n h dX8_slips_35 (i := 0) rfl rfl rfl ?_
        refine gf_X8_10 h hE dX8_slips_36 h0 rfl ?_
        refine G_iload_n h dX8_slips_39 (i := 1) rfl rfl rfl ?_
        refine G_iload_n h dX8_slips_40 (i := 2) rfl rfl rfl ?_
        obtain ⟨x9, hx9, hf⟩ := bd hf
        refine cl_X8_169 h (ok_X0_othersWhoKnow hE _ ((w_7_0 hE h0).2) hx9) dX8_slips_41 ((w_7_0 hE h0).2) (as := [.int v1, .int v2]) rfl rfl ⟨rfl, rfl, Nat.le_of_ble_eq_true rfl, Nat.le_of_ble_eq_true rfl⟩ rfl (Nat.le_of_ble_eq_true rfl) ?_
        refine G_istore h dX8_slips_44  (by decide) (L' := [some (.ref v0), some (.int v1), some (.int v2), some (.int v3), some (.int x9), none, none, none, none, none, none, none]) rfl rfl ?_
        refine G_lconst h dX8_slips_46 kl_0 rfl ?_
        refine G_lstore h dX8_slips_47  (by decide) (L' := [some (.ref v0), some (.int v1), some (.int v2), some (.int v3), some (.int x9), some (.long (0 : Int64)), none, none, none, none, none, none]) rfl rfl ?_
        refine G_lconst h dX8_slips_49 kl_0 rfl ?_
        refine G_lstore h dX8_slips_50  (by decide) (L' := [some (.ref v0), some (.int v1), some (.int v2), some (.int v3), some (.int x9), some (.long (0 : Int64)), none, some (.long (0 : Int64)), none, none, none, none]) rfl rfl ?_
        refine G_iconst h dX8_slips_52 ki_0 rfl ?_
        refine G_istore h dX8_slips_53  (by decide) (L' := [some (.ref v0), some (.int v1), some (.int v2), some (.int v3), some (.int x9), some (.long (0 : Int64)), none, some (.long (0 : Int64)), none, some (.int (0 : Int32)), none, none]) rfl rfl ?_
        exact o_X8_slips_L55 h hE hR  FU _ _ _ _ _ _ _ _ _ h0 hf
      · have hf := it_t c8 hf
        refine G_aload_n h dX8_slips_28 (i := 0) rfl rfl rfl ?_
        refine G_bipush h dX8_slips_29 kb_m2 rfl ?_
        obtain ⟨x10, hx10⟩ : ∃ x, x = f_X8_refuse E M v0 (-2 : Int32) := ⟨_, rfl⟩
        have hf := nm_eq hx10 hf
        refine cl_X8_68 h (ok_X8_refuse hE _ h0 hx10.symm) dX8_slips_31 h0 (as := [.int (-2 : Int32)]) rfl rfl ⟨rfl, rfl, Nat.le_of_ble_eq_true rfl, Nat.le_of_ble_eq_true rfl⟩ rfl (Nat.le_of_ble_eq_true rfl) ?_
        exact pwI hR dX8_slips_34 hf
def rm_X8_status : Room := { frames := 1, cells := 0, slots := 0, locals := 21 }
def f_X8_status (E : Env1) (M : Mem) (v0 : Nat) (v1 : Int32) : Int32 × Mem :=
  if v1 = 0 then (mi M v0 8, M)
  else if v1 = 1 then (mi M v0 9, M)
  else if v1 = 2 then (mi M v0 10, M)
  else (
    nm (f_X8_refuse E M v0 (-2 : Int32)) fun x4 =>
    ((-1 : Int32), x4.2))
set_option maxRecDepth 100000 in
set_option maxHeartbeats 4000000 in
theorem ok_X8_status {E : Env1} (hE : WF E) (l0 : Launch) {M : Mem} {M' : Mem} {v0 : Nat} {v1 : Int32} {r : Int32} (h0 : isK E v0 7) (hf : f_X8_status E M v0 v1 = (r, M')) : Met l0 yX8_status (wsA yX8_status cX8_status 2 (some .int)) rm_X8_status (CP E M [.ref v0, .int v1]) (CQi E r M') 0 0 (eA E) := by
  unfold f_X8_status at hf
  refine mtI l0 (by decide +kernel) (Nat.le_of_ble_eq_true rfl) (L0 := [some (.ref v0), some (.int v1)]) rfl (fun X h hR => ?_)
  refine G_iload_n h dX8_status_0 (i := 1) rfl rfl rfl ?_
  by_cases c1 : v1 = 0
  · have hf := it_t c1 hf
    refine G_tsIn h dX8_status_1 c1 (v := 0) (j := 0) (by decide) (by decide) rfl (tgt := 28) (by decide) ?_
    refine G_aload_n h dX8_status_28 (i := 0) rfl rfl rfl ?_
    refine gf_X8_48 h dX8_status_29 h0 rfl ?_
    exact twI hR dX8_status_32 hf
  have hf := it_f c1 hf
  by_cases c2 : v1 = 1
  · have hf := it_t c2 hf
    refine G_tsIn h dX8_status_1 c2 (v := 1) (j := 1) (by decide) (by decide) rfl (tgt := 33) (by decide) ?_
    refine G_aload_n h dX8_status_33 (i := 0) rfl rfl rfl ?_
    refine gf_X8_52 h dX8_status_34 h0 rfl ?_
    exact twI hR dX8_status_37 hf
  have hf := it_f c2 hf
  by_cases c3 : v1 = 2
  · have hf := it_t c3 hf
    refine G_tsIn h dX8_status_1 c3 (v := 2) (j := 2) (by decide) (by decide) rfl (tgt := 38) (by decide) ?_
    refine G_aload_n h dX8_status_38 (i := 0) rfl rfl rfl ?_
    refine gf_X8_55 h dX8_status_39 h0 rfl ?_
    exact twI hR dX8_status_42 hf
  have hf := it_f c3 hf
  have nc1 := ne_lit c1 (n := 0) (by decide)
  have nc2 := ne_lit c2 (n := 1) (by decide)
  have nc3 := ne_lit c3 (n := 2) (by decide)
  refine G_tsOut h dX8_status_1 (by omega) (tgt := 43) (by decide) ?_
  refine G_aload_n h dX8_status_43 (i := 0) rfl rfl rfl ?_
  refine G_bipush h dX8_status_44 kb_m2 rfl ?_
  obtain ⟨x4, hx4⟩ : ∃ x, x = f_X8_refuse E M v0 (-2 : Int32) := ⟨_, rfl⟩
  have hf := nm_eq hx4 hf
  refine cl_X8_68 h (ok_X8_refuse hE _ h0 hx4.symm) dX8_status_46 h0 (as := [.int (-2 : Int32)]) rfl rfl ⟨rfl, rfl, Nat.le_of_ble_eq_true rfl, Nat.le_of_ble_eq_true rfl⟩ rfl (Nat.le_of_ble_eq_true rfl) ?_
  refine G_pop h dX8_status_49 rfl rfl ?_
  refine G_iconst h dX8_status_50 ki_m1 rfl ?_
  exact twI hR dX8_status_51 hf
def rm_X8_step : Room := { frames := 2, cells := 0, slots := 0, locals := 45 }
def f_X8_step (E : Env1) (M : Mem) (v0 : Nat) (v1 : Int32) (v2 : Int32) : Option (Int32 × Mem) :=
  if (f_X8_isStep E M v1) = 0 then (
    nm (f_X8_refuse E M v0 (-2 : Int32)) fun x3 =>
    some (x3.1, x3.2))
  else (
    if (f_X8_within E M v2 (0 : Int32) (5 : Int32)) = 0 then (
      nm (f_X8_refuse E M v0 (-2 : Int32)) fun x9 =>
      some (x9.1, x9.2))
    else (
      (f_X5_knowers E M (rr E (rr E v0 0) 3) v1).bind fun x6 =>
      (f_X0_remember E M (rr E v0 0)).bind fun x7 =>
      (f_X5_putIn E x7 (rr E (rr E v0 0) 3) v1 v2).bind fun x8 =>
      some (f_J6_bitCount_0f7a4 E M x6, x8)))
set_option maxRecDepth 100000 in
set_option maxHeartbeats 4000000 in
theorem ok_X8_step {E : Env1} (hE : WF E) (l0 : Launch) {M : Mem} {M' : Mem} {v0 : Nat} {v1 : Int32} {v2 : Int32} {r : Int32} (h0 : isK E v0 7) (hf : f_X8_step E M v0 v1 v2 = some (r, M')) : Met l0 yX8_step (wsA yX8_step cX8_step 4 (some .int)) rm_X8_step (CP E M [.ref v0, .int v1, .int v2]) (CQi E r M') 0 0 (eA E) := by
  unfold f_X8_step at hf
  refine mtI l0 (by decide +kernel) (Nat.le_of_ble_eq_true rfl) (L0 := [some (.ref v0), some (.int v1), some (.int v2), none]) rfl (fun X h hR => ?_)
  refine G_iload_n h dX8_step_0 (i := 1) rfl rfl rfl ?_
  refine cl_X8_95 h (ok_X8_isStep hE _  (r := f_X8_isStep E M v1) rfl) dX8_step_1 (as := [.int v1]) rfl rfl ⟨rfl, rfl, Nat.le_of_ble_eq_true rfl, Nat.le_of_ble_eq_true rfl⟩ rfl (Nat.le_of_ble_eq_true rfl) (fun z1 => ?_)
  refine G_if_eq h dX8_step_4 (tgt := 16) (by decide) rfl (fun c2 => ?_) (fun c2 => ?_)
  · have hf := it_t c2 hf
    refine G_aload_n h dX8_step_16 (i := 0) rfl rfl rfl ?_
    refine G_bipush h dX8_step_17 kb_m2 rfl ?_
    obtain ⟨x3, hx3⟩ : ∃ x, x = f_X8_refuse E M v0 (-2 : Int32) := ⟨_, rfl⟩
    have hf := nm_eq hx3 hf
    refine cl_X8_68 h (ok_X8_refuse hE _ h0 hx3.symm) dX8_step_19 h0 (as := [.int (-2 : Int32)]) rfl rfl ⟨rfl, rfl, Nat.le_of_ble_eq_true rfl, Nat.le_of_ble_eq_true rfl⟩ rfl (Nat.le_of_ble_eq_true rfl) ?_
    exact pwI hR dX8_step_22 hf
  · have hf := it_f c2 hf
    refine G_iload_n h dX8_step_7 (i := 2) rfl rfl rfl ?_
    refine G_iconst h dX8_step_8 ki_0 rfl ?_
    refine G_iconst h dX8_step_9 ki_5 rfl ?_
    refine cl_X8_64 h (ok_X8_within hE _  (r := f_X8_within E M v2 (0 : Int32) (5 : Int32)) rfl) dX8_step_10 (as := [.int v2, .int (0 : Int32), .int (5 : Int32)]) rfl rfl ⟨rfl, rfl, Nat.le_of_ble_eq_true rfl, Nat.le_of_ble_eq_true rfl⟩ rfl (Nat.le_of_ble_eq_true rfl) (fun z4 => ?_)
    refine G_if_ne h dX8_step_13 (tgt := 23) (by decide) rfl (fun c5 => ?_) (fun c5 => ?_)
    · have hf := it_f c5 hf
      refine G_aload_n h dX8_step_23 (i := 0) rfl rfl rfl ?_
      refine gf_X8_10 h hE dX8_step_24 h0 rfl ?_
      refine gf_X8_98 h hE dX8_step_27 ((w_7_0 hE h0).2) rfl ?_
      refine G_iload_n h dX8_step_30 (i := 1) rfl rfl rfl ?_
      obtain ⟨x6, hx6, hf⟩ := bd hf
      refine cl_X8_140 h (ok_X5_knowers hE _ ((w_0_3 hE ((w_7_0 hE h0).2)).2) hx6) dX8_step_31 ((w_0_3 hE ((w_7_0 hE h0).2)).2) (as := [.int v1]) rfl rfl ⟨rfl, rfl, Nat.le_of_ble_eq_true rfl, Nat.le_of_ble_eq_true rfl⟩ rfl (Nat.le_of_ble_eq_true rfl) ?_
      refine cl_X8_143 h (ok_J6_bitCount_0f7a4 hE _  (r := f_J6_bitCount_0f7a4 E M x6) rfl) dX8_step_34 (as := [.int x6]) rfl rfl ⟨rfl, rfl, Nat.le_of_ble_eq_true rfl, Nat.le_of_ble_eq_true rfl⟩ rfl (Nat.le_of_ble_eq_true rfl) ?_
      refine G_istore_n h dX8_step_37 (i := 3) rfl (by decide) (L' := [some (.ref v0), some (.int v1), some (.int v2), some (.int (f_J6_bitCount_0f7a4 E M x6))]) rfl rfl ?_
      refine G_aload_n h dX8_step_38 (i := 0) rfl rfl rfl ?_
      refine gf_X8_10 h hE dX8_step_39 h0 rfl ?_
      obtain ⟨x7, hx7, hf⟩ := bd hf
      refine cl_X8_111 h (ok_X0_remember hE _ ((w_7_0 hE h0).2) hx7) dX8_step_42 ((w_7_0 hE h0).2) (as := []) rfl rfl ⟨rfl, rfl, Nat.le_of_ble_eq_true rfl, Nat.le_of_ble_eq_true rfl⟩ rfl (Nat.le_of_ble_eq_true rfl) ?_
      refine G_aload_n h dX8_step_45 (i := 0) rfl rfl rfl ?_
      refine gf_X8_10 h hE dX8_step_46 h0 rfl ?_
      refine gf_X8_98 h hE dX8_step_49 ((w_7_0 hE h0).2) rfl ?_
      refine G_iload_n h dX8_step_52 (i := 1) rfl rfl rfl ?_
      refine G_iload_n h dX8_step_53 (i := 2) rfl rfl rfl ?_
      obtain ⟨x8, hx8, hf⟩ := bd hf
      refine cl_X8_148 h (ok_X5_putIn hE _ ((w_0_3 hE ((w_7_0 hE h0).2)).2) hx8) dX8_step_54 ((w_0_3 hE ((w_7_0 hE h0).2)).2) (as := [.int v1, .int v2]) rfl rfl ⟨rfl, rfl, Nat.le_of_ble_eq_true rfl, Nat.le_of_ble_eq_true rfl⟩ rfl (Nat.le_of_ble_eq_true rfl) ?_
      refine G_iload_n h dX8_step_57 (i := 3) rfl rfl rfl ?_
      exact pwI hR dX8_step_58 hf
    · have hf := it_t c5 hf
      refine G_aload_n h dX8_step_16 (i := 0) rfl rfl rfl ?_
      refine G_bipush h dX8_step_17 kb_m2 rfl ?_
      obtain ⟨x9, hx9⟩ : ∃ x, x = f_X8_refuse E M v0 (-2 : Int32) := ⟨_, rfl⟩
      have hf := nm_eq hx9 hf
      refine cl_X8_68 h (ok_X8_refuse hE _ h0 hx9.symm) dX8_step_19 h0 (as := [.int (-2 : Int32)]) rfl rfl ⟨rfl, rfl, Nat.le_of_ble_eq_true rfl, Nat.le_of_ble_eq_true rfl⟩ rfl (Nat.le_of_ble_eq_true rfl) ?_
      exact pwI hR dX8_step_22 hf
def rm_X8_then : Room := { frames := 2, cells := 0, slots := 0, locals := 43 }
def b_X8_then_L44 (E : Env1) (k44 : Mem → Nat → Int32 → Int32 → Int32 → (Option (Int32 × Mem))) (M : Mem) (v0 : Nat) (v2 : Int32) (v3 : Int32) (v4 : Int32) : Option (Int32 × Mem) :=
  if v2 ≤ v4 then (some (v3, M))
  else (
    (f_X5_toldOn E M (rr E (rr E v0 0) 3) v3).bind fun x2 =>
    k44 M v0 v2 x2 (v4 + 1))
set_option maxRecDepth 100000 in
set_option maxHeartbeats 4000000 in
theorem ob_X8_then_L44 {X : Ctx} {l0 : Launch} {E : Env1} (h : Cx X l0 E RX8 cX8_then (some .int) 5 rm_X8_then) (hE : WF E) {M' : Mem} {r : Int32} (hR : RetI X E cX8_then r M') {k44 : Mem → Nat → Int32 → Int32 → Int32 → (Option (Int32 × Mem))} (hk44 : ∀ (M : Mem) (v0 : Nat) (v2 : Int32) (v3 : Int32) (v4 : Int32), isK E v0 7 → k44 M v0 v2 v3 v4 = some (r, M') → G X E (0, 0) 44 [some (.ref v0), none, some (.int v2), some (.int v3), some (.int v4)] [] M) {M : Mem} {v0 : Nat} {v2 : Int32} {v3 : Int32} {v4 : Int32} (h_v0 : isK E v0 7) (hf : b_X8_then_L44 E k44 M v0 v2 v3 v4 = some (r, M')) : G X E (0, 0) 44 [some (.ref v0), none, some (.int v2), some (.int v3), some (.int v4)] [] M := by
  unfold b_X8_then_L44 at hf
  refine G_iload h dX8_then_44 rfl rfl ?_
  refine G_iload_n h dX8_then_46 (i := 2) rfl rfl rfl ?_
  refine G_icmp_ge h dX8_then_47 (tgt := 68) (by decide) rfl (fun c1 => ?_) (fun c1 => ?_)
  · have hf := it_t c1 hf
    refine G_iload_n h dX8_then_68 (i := 3) rfl rfl rfl ?_
    exact pwI hR dX8_then_69 hf
  · have hf := it_f c1 hf
    refine G_aload_n h dX8_then_50 (i := 0) rfl rfl rfl ?_
    refine gf_X8_10 h hE dX8_then_51 h_v0 rfl ?_
    refine gf_X8_98 h hE dX8_then_54 ((w_7_0 hE h_v0).2) rfl ?_
    refine G_iload_n h dX8_then_57 (i := 3) rfl rfl rfl ?_
    obtain ⟨x2, hx2, hf⟩ := bd hf
    refine cl_X8_190 h (ok_X5_toldOn hE _ ((w_0_3 hE ((w_7_0 hE h_v0).2)).2) hx2) dX8_then_58 ((w_0_3 hE ((w_7_0 hE h_v0).2)).2) (as := [.int v3]) rfl rfl ⟨rfl, rfl, Nat.le_of_ble_eq_true rfl, Nat.le_of_ble_eq_true rfl⟩ rfl (Nat.le_of_ble_eq_true rfl) ?_
    refine G_istore_n h dX8_then_61 (i := 3) rfl (by decide) (L' := [some (.ref v0), none, some (.int v2), some (.int x2), some (.int v4)]) rfl rfl ?_
    refine G_iinc2 h dX8_then_62 rfl ki_1 (by decide) (L' := [some (.ref v0), none, some (.int v2), some (.int x2), some (.int (v4 + 1))]) rfl rfl ?_
    refine G_goto h dX8_then_65 (tgt := 44) (by decide) ?_
    exact hk44 _ _ _ _ _ h_v0 hf
def f_X8_then_L44 (E : Env1) : Nat → Mem → Nat → Int32 → Int32 → Int32 → (Option (Int32 × Mem))
  | 0 => fun _ _ _ _ _ => none
  | n + 1 => b_X8_then_L44 E (f_X8_then_L44 E n)
theorem o_X8_then_L44 {X : Ctx} {l0 : Launch} {E : Env1} (h : Cx X l0 E RX8 cX8_then (some .int) 5 rm_X8_then) (hE : WF E) {M' : Mem} {r : Int32} (hR : RetI X E cX8_then r M') : ∀ (n : Nat) (M : Mem) (v0 : Nat) (v2 : Int32) (v3 : Int32) (v4 : Int32), isK E v0 7 → f_X8_then_L44 E n M v0 v2 v3 v4 = some (r, M') → G X E (0, 0) 44 [some (.ref v0), none, some (.int v2), some (.int v3), some (.int v4)] [] M := by
  intro n
  induction n with
  | zero =>
    intro _ _ _ _ _ a0 hf
    have h0 : (none : Option (Int32 × Mem)) = some (r, M') := hf
    cases h0
  | succ n ih =>
    intro _ _ _ _ _ a0 hf
    exact ob_X8_then_L44 h hE hR  ih a0 hf
def f_X8_then (E : Env1) (M : Mem) (v0 : Nat) (v1 : Int32) (v2 : Int32) : Option (Int32 × Mem) :=
  if (f_X0_hasPerson E M (rr E v0 0) v1) = 0 then (
    nm (f_X8_refuse E M v0 (-2 : Int32)) fun x3 =>
    some (x3.1, x3.2))
  else (
    if (f_X8_within E M v2 (0 : Int32) (60 : Int32)) = 0 then (
      nm (f_X8_refuse E M v0 (-2 : Int32)) fun x8 =>
      some (x8.1, x8.2))
    else (
      gd v1 6 (nm (mi M (rr E (rr E (rr E v0 0) 3) 1) (ix v1)) fun x7 =>
      f_X8_then_L44 E FU M v0 v2 x7 (0 : Int32))))
set_option maxRecDepth 100000 in
set_option maxHeartbeats 4000000 in
theorem ok_X8_then {E : Env1} (hE : WF E) (l0 : Launch) {M : Mem} {M' : Mem} {v0 : Nat} {v1 : Int32} {v2 : Int32} {r : Int32} (h0 : isK E v0 7) (hf : f_X8_then E M v0 v1 v2 = some (r, M')) : Met l0 yX8_then (wsA yX8_then cX8_then 5 (some .int)) rm_X8_then (CP E M [.ref v0, .int v1, .int v2]) (CQi E r M') 0 0 (eA E) := by
  unfold f_X8_then at hf
  refine mtI l0 (by decide +kernel) (Nat.le_of_ble_eq_true rfl) (L0 := [some (.ref v0), some (.int v1), some (.int v2), none, none]) rfl (fun X h hR => ?_)
  refine G_aload_n h dX8_then_0 (i := 0) rfl rfl rfl ?_
  refine gf_X8_10 h hE dX8_then_1 h0 rfl ?_
  refine G_iload_n h dX8_then_4 (i := 1) rfl rfl rfl ?_
  refine cl_X8_91 h (ok_X0_hasPerson hE _ ((w_7_0 hE h0).2) (r := f_X0_hasPerson E M (rr E v0 0) v1) rfl) dX8_then_5 ((w_7_0 hE h0).2) (as := [.int v1]) rfl rfl ⟨rfl, rfl, Nat.le_of_ble_eq_true rfl, Nat.le_of_ble_eq_true rfl⟩ rfl (Nat.le_of_ble_eq_true rfl) (fun z1 => ?_)
  refine G_if_eq h dX8_then_8 (tgt := 21) (by decide) rfl (fun c2 => ?_) (fun c2 => ?_)
  · have hf := it_t c2 hf
    refine G_aload_n h dX8_then_21 (i := 0) rfl rfl rfl ?_
    refine G_bipush h dX8_then_22 kb_m2 rfl ?_
    obtain ⟨x3, hx3⟩ : ∃ x, x = f_X8_refuse E M v0 (-2 : Int32) := ⟨_, rfl⟩
    have hf := nm_eq hx3 hf
    refine cl_X8_68 h (ok_X8_refuse hE _ h0 hx3.symm) dX8_then_24 h0 (as := [.int (-2 : Int32)]) rfl rfl ⟨rfl, rfl, Nat.le_of_ble_eq_true rfl, Nat.le_of_ble_eq_true rfl⟩ rfl (Nat.le_of_ble_eq_true rfl) ?_
    exact pwI hR dX8_then_27 hf
  · have hf := it_f c2 hf
    refine G_iload_n h dX8_then_11 (i := 2) rfl rfl rfl ?_
    refine G_iconst h dX8_then_12 ki_0 rfl ?_
    refine G_bipush h dX8_then_13 kb_60 rfl ?_
    refine cl_X8_64 h (ok_X8_within hE _  (r := f_X8_within E M v2 (0 : Int32) (60 : Int32)) rfl) dX8_then_15 (as := [.int v2, .int (0 : Int32), .int (60 : Int32)]) rfl rfl ⟨rfl, rfl, Nat.le_of_ble_eq_true rfl, Nat.le_of_ble_eq_true rfl⟩ rfl (Nat.le_of_ble_eq_true rfl) (fun z4 => ?_)
    refine G_if_ne h dX8_then_18 (tgt := 28) (by decide) rfl (fun c5 => ?_) (fun c5 => ?_)
    · have hf := it_f c5 hf
      refine G_aload_n h dX8_then_28 (i := 0) rfl rfl rfl ?_
      refine gf_X8_10 h hE dX8_then_29 h0 rfl ?_
      refine gf_X8_98 h hE dX8_then_32 ((w_7_0 hE h0).2) rfl ?_
      refine gf_X8_163 h hE dX8_then_35 ((w_0_3 hE ((w_7_0 hE h0).2)).2) rfl ?_
      refine G_iload_n h dX8_then_38 (i := 1) rfl rfl rfl ?_
      obtain ⟨g6, hf⟩ := gd_some hf
      refine G_iald h dX8_then_39 ((w_4_1 hE ((w_0_3 hE ((w_7_0 hE h0).2)).2)).2) g6 (jx := (ix v1)) rfl rfl ?_
      refine G_nmi (fun x7 hx7 => ?_)
      have hf := nm_eq hx7 hf
      refine G_istore_n h dX8_then_40 (i := 3) rfl (by decide) (L' := [some (.ref v0), some (.int v1), some (.int v2), some (.int x7), none]) rfl rfl ?_
      refine G_iconst h dX8_then_41 ki_0 rfl ?_
      refine G_istore h dX8_then_42  (by decide) (L' := [some (.ref v0), some (.int v1), some (.int v2), some (.int x7), some (.int (0 : Int32))]) rfl rfl ?_
      refine G_mskL [true, false, true, true, true] (L' := [some (.ref v0), none, some (.int v2), some (.int x7), some (.int (0 : Int32))]) rfl ?_
      exact o_X8_then_L44 h hE hR  FU _ _ _ _ _ h0 hf
    · have hf := it_t c5 hf
      refine G_aload_n h dX8_then_21 (i := 0) rfl rfl rfl ?_
      refine G_bipush h dX8_then_22 kb_m2 rfl ?_
      obtain ⟨x8, hx8⟩ : ∃ x, x = f_X8_refuse E M v0 (-2 : Int32) := ⟨_, rfl⟩
      have hf := nm_eq hx8 hf
      refine cl_X8_68 h (ok_X8_refuse hE _ h0 hx8.symm) dX8_then_24 h0 (as := [.int (-2 : Int32)]) rfl rfl ⟨rfl, rfl, Nat.le_of_ble_eq_true rfl, Nat.le_of_ble_eq_true rfl⟩ rfl (Nat.le_of_ble_eq_true rfl) ?_
      exact pwI hR dX8_then_27 hf
def rm_X8_type : Room := { frames := 2, cells := 0, slots := 0, locals := 43 }
def f_X8_type (E : Env1) (M : Mem) (v0 : Nat) (v1 : Int32) : Option (Int32 × Mem) :=
  if (f_X8_within E M v1 (0 : Int32) (127 : Int32)) = 0 then (
    nm (f_X8_refuse E M v0 (-2 : Int32)) fun x6 =>
    some (x6.1, x6.2))
  else (
    if (mi M (rr E v0 4) 0) < (150 : Int32) then (
      (f_X7_append E M (rr E v0 4) v1).bind fun x4 =>
      some (mi x4 (rr E v0 4) 0, x4))
    else (
      nm (f_X8_refuse E M v0 (-4 : Int32)) fun x5 =>
      some (x5.1, x5.2)))
set_option maxRecDepth 100000 in
set_option maxHeartbeats 4000000 in
theorem ok_X8_type {E : Env1} (hE : WF E) (l0 : Launch) {M : Mem} {M' : Mem} {v0 : Nat} {v1 : Int32} {r : Int32} (h0 : isK E v0 7) (hf : f_X8_type E M v0 v1 = some (r, M')) : Met l0 yX8_type (wsA yX8_type cX8_type 2 (some .int)) rm_X8_type (CP E M [.ref v0, .int v1]) (CQi E r M') 0 0 (eA E) := by
  unfold f_X8_type at hf
  refine mtI l0 (by decide +kernel) (Nat.le_of_ble_eq_true rfl) (L0 := [some (.ref v0), some (.int v1)]) rfl (fun X h hR => ?_)
  refine G_iload_n h dX8_type_0 (i := 1) rfl rfl rfl ?_
  refine G_iconst h dX8_type_1 ki_0 rfl ?_
  refine G_bipush h dX8_type_2 kb_127 rfl ?_
  refine cl_X8_64 h (ok_X8_within hE _  (r := f_X8_within E M v1 (0 : Int32) (127 : Int32)) rfl) dX8_type_4 (as := [.int v1, .int (0 : Int32), .int (127 : Int32)]) rfl rfl ⟨rfl, rfl, Nat.le_of_ble_eq_true rfl, Nat.le_of_ble_eq_true rfl⟩ rfl (Nat.le_of_ble_eq_true rfl) (fun z1 => ?_)
  refine G_if_ne h dX8_type_7 (tgt := 17) (by decide) rfl (fun c2 => ?_) (fun c2 => ?_)
  · have hf := it_f c2 hf
    refine G_aload_n h dX8_type_17 (i := 0) rfl rfl rfl ?_
    refine gf_X8_30 h hE dX8_type_18 h0 rfl ?_
    refine gf_X8_76 h dX8_type_21 ((w_7_4 hE h0).2) rfl ?_
    refine G_sipush h dX8_type_24 ks_150 rfl ?_
    refine G_icmp_lt h dX8_type_27 (tgt := 37) (by decide) rfl (fun c3 => ?_) (fun c3 => ?_)
    · have hf := it_t c3 hf
      refine G_aload_n h dX8_type_37 (i := 0) rfl rfl rfl ?_
      refine gf_X8_30 h hE dX8_type_38 h0 rfl ?_
      refine G_iload_n h dX8_type_41 (i := 1) rfl rfl rfl ?_
      obtain ⟨x4, hx4, hf⟩ := bd hf
      refine cl_X8_79 h (ok_X7_append hE _ ((w_7_4 hE h0).2) hx4) dX8_type_42 ((w_7_4 hE h0).2) (as := [.int v1]) rfl rfl ⟨rfl, rfl, Nat.le_of_ble_eq_true rfl, Nat.le_of_ble_eq_true rfl⟩ rfl (Nat.le_of_ble_eq_true rfl) ?_
      refine G_aload_n h dX8_type_45 (i := 0) rfl rfl rfl ?_
      refine gf_X8_30 h hE dX8_type_46 h0 rfl ?_
      refine gf_X8_76 h dX8_type_49 ((w_7_4 hE h0).2) rfl ?_
      exact pwI hR dX8_type_52 hf
    · have hf := it_f c3 hf
      refine G_aload_n h dX8_type_30 (i := 0) rfl rfl rfl ?_
      refine G_bipush h dX8_type_31 kb_m4 rfl ?_
      obtain ⟨x5, hx5⟩ : ∃ x, x = f_X8_refuse E M v0 (-4 : Int32) := ⟨_, rfl⟩
      have hf := nm_eq hx5 hf
      refine cl_X8_68 h (ok_X8_refuse hE _ h0 hx5.symm) dX8_type_33 h0 (as := [.int (-4 : Int32)]) rfl rfl ⟨rfl, rfl, Nat.le_of_ble_eq_true rfl, Nat.le_of_ble_eq_true rfl⟩ rfl (Nat.le_of_ble_eq_true rfl) ?_
      exact pwI hR dX8_type_36 hf
  · have hf := it_t c2 hf
    refine G_aload_n h dX8_type_10 (i := 0) rfl rfl rfl ?_
    refine G_bipush h dX8_type_11 kb_m2 rfl ?_
    obtain ⟨x6, hx6⟩ : ∃ x, x = f_X8_refuse E M v0 (-2 : Int32) := ⟨_, rfl⟩
    have hf := nm_eq hx6 hf
    refine cl_X8_68 h (ok_X8_refuse hE _ h0 hx6.symm) dX8_type_13 h0 (as := [.int (-2 : Int32)]) rfl rfl ⟨rfl, rfl, Nat.le_of_ble_eq_true rfl, Nat.le_of_ble_eq_true rfl⟩ rfl (Nat.le_of_ble_eq_true rfl) ?_
    exact pwI hR dX8_type_16 hf
def rm_X8_undo : Room := { frames := 2, cells := 0, slots := 0, locals := 42 }
def f_X8_undo (E : Env1) (M : Mem) (v0 : Nat) : Option (Int32 × Mem) :=
  if (mi M (rr E v0 0) 5) = 0 then (
    nm (f_X8_refuse E M v0 (-3 : Int32)) fun x3 =>
    some (x3.1, x3.2))
  else (
    (f_X0_goBack E M (rr E v0 0)).bind fun x2 =>
    some (mi x2 (rr E (rr E v0 0) 3) 4, x2))
set_option maxRecDepth 100000 in
set_option maxHeartbeats 4000000 in
theorem ok_X8_undo {E : Env1} (hE : WF E) (l0 : Launch) {M : Mem} {M' : Mem} {v0 : Nat} {r : Int32} (h0 : isK E v0 7) (hf : f_X8_undo E M v0 = some (r, M')) : Met l0 yX8_undo (wsA yX8_undo cX8_undo 1 (some .int)) rm_X8_undo (CP E M [.ref v0]) (CQi E r M') 0 0 (eA E) := by
  unfold f_X8_undo at hf
  refine mtI l0 (by decide +kernel) (Nat.le_of_ble_eq_true rfl) (L0 := [some (.ref v0)]) rfl (fun X h hR => ?_)
  refine G_aload_n h dX8_undo_0 (i := 0) rfl rfl rfl ?_
  refine gf_X8_10 h hE dX8_undo_1 h0 rfl ?_
  refine gf_X8_151 h dX8_undo_4 ((w_7_0 hE h0).2) rfl ?_
  refine G_if_ne h dX8_undo_7 (tgt := 17) (by decide) rfl (fun c1 => ?_) (fun c1 => ?_)
  · have hf := it_f c1 hf
    refine G_aload_n h dX8_undo_17 (i := 0) rfl rfl rfl ?_
    refine gf_X8_10 h hE dX8_undo_18 h0 rfl ?_
    obtain ⟨x2, hx2, hf⟩ := bd hf
    refine cl_X8_154 h (ok_X0_goBack hE _ ((w_7_0 hE h0).2) hx2) dX8_undo_21 ((w_7_0 hE h0).2) (as := []) rfl rfl ⟨rfl, rfl, Nat.le_of_ble_eq_true rfl, Nat.le_of_ble_eq_true rfl⟩ rfl (Nat.le_of_ble_eq_true rfl) ?_
    refine G_aload_n h dX8_undo_24 (i := 0) rfl rfl rfl ?_
    refine gf_X8_10 h hE dX8_undo_25 h0 rfl ?_
    refine gf_X8_98 h hE dX8_undo_28 ((w_7_0 hE h0).2) rfl ?_
    refine gf_X8_108 h dX8_undo_31 ((w_0_3 hE ((w_7_0 hE h0).2)).2) rfl ?_
    exact pwI hR dX8_undo_34 hf
  · have hf := it_t c1 hf
    refine G_aload_n h dX8_undo_10 (i := 0) rfl rfl rfl ?_
    refine G_bipush h dX8_undo_11 kb_m3 rfl ?_
    obtain ⟨x3, hx3⟩ : ∃ x, x = f_X8_refuse E M v0 (-3 : Int32) := ⟨_, rfl⟩
    have hf := nm_eq hx3 hf
    refine cl_X8_68 h (ok_X8_refuse hE _ h0 hx3.symm) dX8_undo_13 h0 (as := [.int (-3 : Int32)]) rfl rfl ⟨rfl, rfl, Nat.le_of_ble_eq_true rfl, Nat.le_of_ble_eq_true rfl⟩ rfl (Nat.le_of_ble_eq_true rfl) ?_
    exact pwI hR dX8_undo_16 hf
def rm_X8_waits : Room := { frames := 3, cells := 0, slots := 0, locals := 68 }
def f_X8_waits (E : Env1) (M : Mem) (v0 : Nat) (v1 : Int32) : Option (Int32 × Mem) :=
  if (f_X8_within E M v1 (1 : Int32) (60 : Int32)) = 0 then (
    nm (f_X8_refuse E M v0 (-2 : Int32)) fun x6 =>
    some (x6.1, x6.2))
  else (
    (f_X0_remember E M (rr E v0 0)).bind fun x3 =>
    (f_X5_passMinutes E x3 (rr E (rr E v0 0) 3) v1).bind fun x4 =>
    (f_X5_knownTogether E x4 (rr E (rr E v0 0) 3)).bind fun x5 =>
    some (x5, x4))
set_option maxRecDepth 100000 in
set_option maxHeartbeats 4000000 in
theorem ok_X8_waits {E : Env1} (hE : WF E) (l0 : Launch) {M : Mem} {M' : Mem} {v0 : Nat} {v1 : Int32} {r : Int32} (h0 : isK E v0 7) (hf : f_X8_waits E M v0 v1 = some (r, M')) : Met l0 yX8_waits (wsA yX8_waits cX8_waits 2 (some .int)) rm_X8_waits (CP E M [.ref v0, .int v1]) (CQi E r M') 0 0 (eA E) := by
  unfold f_X8_waits at hf
  refine mtI l0 (by decide +kernel) (Nat.le_of_ble_eq_true rfl) (L0 := [some (.ref v0), some (.int v1)]) rfl (fun X h hR => ?_)
  refine G_iload_n h dX8_waits_0 (i := 1) rfl rfl rfl ?_
  refine G_iconst h dX8_waits_1 ki_1 rfl ?_
  refine G_bipush h dX8_waits_2 kb_60 rfl ?_
  refine cl_X8_64 h (ok_X8_within hE _  (r := f_X8_within E M v1 (1 : Int32) (60 : Int32)) rfl) dX8_waits_4 (as := [.int v1, .int (1 : Int32), .int (60 : Int32)]) rfl rfl ⟨rfl, rfl, Nat.le_of_ble_eq_true rfl, Nat.le_of_ble_eq_true rfl⟩ rfl (Nat.le_of_ble_eq_true rfl) (fun z1 => ?_)
  refine G_if_ne h dX8_waits_7 (tgt := 17) (by decide) rfl (fun c2 => ?_) (fun c2 => ?_)
  · have hf := it_f c2 hf
    refine G_aload_n h dX8_waits_17 (i := 0) rfl rfl rfl ?_
    refine gf_X8_10 h hE dX8_waits_18 h0 rfl ?_
    obtain ⟨x3, hx3, hf⟩ := bd hf
    refine cl_X8_111 h (ok_X0_remember hE _ ((w_7_0 hE h0).2) hx3) dX8_waits_21 ((w_7_0 hE h0).2) (as := []) rfl rfl ⟨rfl, rfl, Nat.le_of_ble_eq_true rfl, Nat.le_of_ble_eq_true rfl⟩ rfl (Nat.le_of_ble_eq_true rfl) ?_
    refine G_aload_n h dX8_waits_24 (i := 0) rfl rfl rfl ?_
    refine gf_X8_10 h hE dX8_waits_25 h0 rfl ?_
    refine gf_X8_98 h hE dX8_waits_28 ((w_7_0 hE h0).2) rfl ?_
    refine G_iload_n h dX8_waits_31 (i := 1) rfl rfl rfl ?_
    obtain ⟨x4, hx4, hf⟩ := bd hf
    refine cl_X8_131 h (ok_X5_passMinutes hE _ ((w_0_3 hE ((w_7_0 hE h0).2)).2) hx4) dX8_waits_32 ((w_0_3 hE ((w_7_0 hE h0).2)).2) (as := [.int v1]) rfl rfl ⟨rfl, rfl, Nat.le_of_ble_eq_true rfl, Nat.le_of_ble_eq_true rfl⟩ rfl (Nat.le_of_ble_eq_true rfl) ?_
    refine G_aload_n h dX8_waits_35 (i := 0) rfl rfl rfl ?_
    refine gf_X8_10 h hE dX8_waits_36 h0 rfl ?_
    refine gf_X8_98 h hE dX8_waits_39 ((w_7_0 hE h0).2) rfl ?_
    obtain ⟨x5, hx5, hf⟩ := bd hf
    refine cl_X8_134 h (ok_X5_knownTogether hE _ ((w_0_3 hE ((w_7_0 hE h0).2)).2) hx5) dX8_waits_42 ((w_0_3 hE ((w_7_0 hE h0).2)).2) (as := []) rfl rfl ⟨rfl, rfl, Nat.le_of_ble_eq_true rfl, Nat.le_of_ble_eq_true rfl⟩ rfl (Nat.le_of_ble_eq_true rfl) ?_
    exact pwI hR dX8_waits_45 hf
  · have hf := it_t c2 hf
    refine G_aload_n h dX8_waits_10 (i := 0) rfl rfl rfl ?_
    refine G_bipush h dX8_waits_11 kb_m2 rfl ?_
    obtain ⟨x6, hx6⟩ : ∃ x, x = f_X8_refuse E M v0 (-2 : Int32) := ⟨_, rfl⟩
    have hf := nm_eq hx6 hf
    refine cl_X8_68 h (ok_X8_refuse hE _ h0 hx6.symm) dX8_waits_13 h0 (as := [.int (-2 : Int32)]) rfl rfl ⟨rfl, rfl, Nat.le_of_ble_eq_true rfl, Nat.le_of_ble_eq_true rfl⟩ rfl (Nat.le_of_ble_eq_true rfl) ?_
    exact pwI hR dX8_waits_16 hf
def rm_X8_word : Room := { frames := 2, cells := 0, slots := 0, locals := 47 }
def f_X8_word (E : Env1) (M : Mem) (v0 : Nat) (v1 : Int32) : Option (Int32 × Mem) :=
  if (f_X0_hasPerson E M (rr E v0 0) v1) = 0 then (
    nm (f_X8_refuse E M v0 (-2 : Int32)) fun x4 =>
    some (x4.1, x4.2))
  else (
    (f_X0_worth E M (rr E v0 0) v1 (mi M (rr E (rr E v0 0) 3) 4)).bind fun x3 =>
    some (x3, M))
set_option maxRecDepth 100000 in
set_option maxHeartbeats 4000000 in
theorem ok_X8_word {E : Env1} (hE : WF E) (l0 : Launch) {M : Mem} {M' : Mem} {v0 : Nat} {v1 : Int32} {r : Int32} (h0 : isK E v0 7) (hf : f_X8_word E M v0 v1 = some (r, M')) : Met l0 yX8_word (wsA yX8_word cX8_word 2 (some .int)) rm_X8_word (CP E M [.ref v0, .int v1]) (CQi E r M') 0 0 (eA E) := by
  unfold f_X8_word at hf
  refine mtI l0 (by decide +kernel) (Nat.le_of_ble_eq_true rfl) (L0 := [some (.ref v0), some (.int v1)]) rfl (fun X h hR => ?_)
  refine G_aload_n h dX8_word_0 (i := 0) rfl rfl rfl ?_
  refine gf_X8_10 h hE dX8_word_1 h0 rfl ?_
  refine G_iload_n h dX8_word_4 (i := 1) rfl rfl rfl ?_
  refine cl_X8_91 h (ok_X0_hasPerson hE _ ((w_7_0 hE h0).2) (r := f_X0_hasPerson E M (rr E v0 0) v1) rfl) dX8_word_5 ((w_7_0 hE h0).2) (as := [.int v1]) rfl rfl ⟨rfl, rfl, Nat.le_of_ble_eq_true rfl, Nat.le_of_ble_eq_true rfl⟩ rfl (Nat.le_of_ble_eq_true rfl) (fun z1 => ?_)
  refine G_if_ne h dX8_word_8 (tgt := 18) (by decide) rfl (fun c2 => ?_) (fun c2 => ?_)
  · have hf := it_f c2 hf
    refine G_aload_n h dX8_word_18 (i := 0) rfl rfl rfl ?_
    refine gf_X8_10 h hE dX8_word_19 h0 rfl ?_
    refine G_iload_n h dX8_word_22 (i := 1) rfl rfl rfl ?_
    refine G_aload_n h dX8_word_23 (i := 0) rfl rfl rfl ?_
    refine gf_X8_10 h hE dX8_word_24 h0 rfl ?_
    refine gf_X8_98 h hE dX8_word_27 ((w_7_0 hE h0).2) rfl ?_
    refine gf_X8_108 h dX8_word_30 ((w_0_3 hE ((w_7_0 hE h0).2)).2) rfl ?_
    obtain ⟨x3, hx3, hf⟩ := bd hf
    refine cl_X8_184 h (ok_X0_worth hE _ ((w_7_0 hE h0).2) hx3) dX8_word_33 ((w_7_0 hE h0).2) (as := [.int v1, .int (mi M (rr E (rr E v0 0) 3) 4)]) rfl rfl ⟨rfl, rfl, Nat.le_of_ble_eq_true rfl, Nat.le_of_ble_eq_true rfl⟩ rfl (Nat.le_of_ble_eq_true rfl) ?_
    exact pwI hR dX8_word_36 hf
  · have hf := it_t c2 hf
    refine G_aload_n h dX8_word_11 (i := 0) rfl rfl rfl ?_
    refine G_bipush h dX8_word_12 kb_m2 rfl ?_
    obtain ⟨x4, hx4⟩ : ∃ x, x = f_X8_refuse E M v0 (-2 : Int32) := ⟨_, rfl⟩
    have hf := nm_eq hx4 hf
    refine cl_X8_68 h (ok_X8_refuse hE _ h0 hx4.symm) dX8_word_14 h0 (as := [.int (-2 : Int32)]) rfl rfl ⟨rfl, rfl, Nat.le_of_ble_eq_true rfl, Nat.le_of_ble_eq_true rfl⟩ rfl (Nat.le_of_ble_eq_true rfl) ?_
    exact pwI hR dX8_word_17 hf
end
