section
def rm_X7_append : Room := { frames := 1, cells := 0, slots := 0, locals := 22 }
def f_X7_append (E : Env1) (M : Mem) (v0 : Nat) (v1 : Int32) : Option (Mem) :=
  if (f_X8_within E M (mi M v0 0) (0 : Int32) (149 : Int32)) = 0 then (some M)
  else (
    gd (mi M v0 0) 150 (nm (wi (wi M (rr E v0 1) (ix (mi M v0 0)) v1) v0 0 ((mi (wi M (rr E v0 1) (ix (mi M v0 0)) v1) v0 0) + (1 : Int32))) fun M4 =>
    some M4))
set_option maxRecDepth 100000 in
set_option maxHeartbeats 4000000 in
theorem ok_X7_append {E : Env1} (hE : WF E) (l0 : Launch) {M : Mem} {M' : Mem} {v0 : Nat} {v1 : Int32} (h0 : isK E v0 6) (hf : f_X7_append E M v0 v1 = some (M')) : Met l0 yX7_append (wsA yX7_append cX7_append 2 none) rm_X7_append (CP E M [.ref v0, .int v1]) (CQv E M') 0 0 (eA E) := by
  unfold f_X7_append at hf
  refine mtV l0 (by decide +kernel) (Nat.le_of_ble_eq_true rfl) (L0 := [some (.ref v0), some (.int v1)]) rfl (fun X h hR => ?_)
  refine G_aload_n h dX7_append_0 (i := 0) rfl rfl rfl ?_
  refine gf_X7_9 h dX7_append_1 h0 rfl ?_
  refine G_iconst h dX7_append_4 ki_0 rfl ?_
  refine G_sipush h dX7_append_5 ks_149 rfl ?_
  refine cl_X7_43 h (ok_X8_within hE _  (r := f_X8_within E M (mi M v0 0) (0 : Int32) (149 : Int32)) rfl) dX7_append_8 (as := [.int (mi M v0 0), .int (0 : Int32), .int (149 : Int32)]) rfl rfl ⟨rfl, rfl, Nat.le_of_ble_eq_true rfl, Nat.le_of_ble_eq_true rfl⟩ rfl (Nat.le_of_ble_eq_true rfl) (fun z1 => ?_)
  refine G_if_eq h dX7_append_11 (tgt := 34) (by decide) rfl (fun c2 => ?_) (fun c2 => ?_)
  · have hf := it_t c2 hf
    exact pwV hR dX7_append_34 hf
  · have hf := it_f c2 hf
    refine G_aload_n h dX7_append_14 (i := 0) rfl rfl rfl ?_
    refine gf_X7_15 h hE dX7_append_15 h0 rfl ?_
    refine G_aload_n h dX7_append_18 (i := 0) rfl rfl rfl ?_
    refine gf_X7_9 h dX7_append_19 h0 rfl ?_
    refine G_iload_n h dX7_append_22 (i := 1) rfl rfl rfl ?_
    obtain ⟨g3, hf⟩ := gd_some hf
    refine G_iast h dX7_append_23 ((w_6_1 hE h0).2) g3 (jx := (ix (mi M v0 0))) rfl rfl ?_
    refine G_aload_n h dX7_append_24 (i := 0) rfl rfl rfl ?_
    refine G_dup h dX7_append_25 rfl rfl ?_
    refine gf_X7_9 h dX7_append_26 h0 rfl ?_
    refine G_iconst h dX7_append_29 ki_1 rfl ?_
    refine G_iadd h dX7_append_30 rfl ?_
    refine pf_X7_9 h dX7_append_31 h0 rfl ?_
    refine G_nmM (fun M4 hM4 => ?_)
    have hf := nm_eq hM4 hf
    exact pwV hR dX7_append_34 hf
def rm_X7_begins : Room := { frames := 0, cells := 0, slots := 0, locals := 0 }
def f_X7_begins (E : Env1) (M : Mem) (v0 : Nat) (v1 : Nat) : Int32 × Mem :=
  nm (if (if (mi M v0 5) = 0 then (1 : Int32) else (0 : Int32)) = (if (mi M v0 9) = 0 then (1 : Int32) else (0 : Int32)) then (1 : Int32) else (0 : Int32)) fun x4 =>
  nm (if (mi M v0 5) = (1 : Int32) then if (mi M v1 0) < (6 : Int32) then (0 : Int32) else (1 : Int32) else (0 : Int32)) fun x7 =>
  if (mi M v0 4) = (1 : Int32) then (
    if x4 = 0 then ((0 : Int32), M)
    else (
      if x7 = 0 then ((1 : Int32), wi (wi M v0 6 (mi M v0 5)) v0 7 (0 : Int32))
      else ((0 : Int32), M)))
  else ((0 : Int32), M)
set_option maxRecDepth 100000 in
set_option maxHeartbeats 4000000 in
theorem ok_X7_begins {E : Env1} (hE : WF E) (l0 : Launch) {M : Mem} {M' : Mem} {v0 : Nat} {v1 : Nat} {r : Int32} (h0 : isK E v0 6) (h1 : isK E v1 0) (hf : f_X7_begins E M v0 v1 = (r, M')) : Met l0 yX7_begins (wsA yX7_begins cX7_begins 4 (some .boolean)) rm_X7_begins (CP E M [.ref v0, .ref v1]) (CQz E r M') 0 0 (eA E) := by
  unfold f_X7_begins at hf
  refine mtZ l0 (by decide +kernel) (Nat.le_of_ble_eq_true rfl) (L0 := [some (.ref v0), some (.ref v1), none, none]) rfl (fun X h hR => ?_)
  refine G_aload_n h dX7_begins_0 (i := 0) rfl rfl rfl ?_
  refine gf_X7_28 h dX7_begins_1 h0 rfl ?_
  have hJ : G X E (0, 0) 12 [some (.ref v0), some (.ref v1), none, none] [.int (if (mi M v0 5) = 0 then (1 : Int32) else (0 : Int32))] M := by
    refine G_aload_n h dX7_begins_12 (i := 0) rfl rfl rfl ?_
    refine gf_X7_40 h dX7_begins_13 h0 rfl ?_
    have hJ : G X E (0, 0) 24 [some (.ref v0), some (.ref v1), none, none] [.int (if (mi M v0 9) = 0 then (1 : Int32) else (0 : Int32)), .int (if (mi M v0 5) = 0 then (1 : Int32) else (0 : Int32))] M := by
      have hJ : G X E (0, 0) 32 [some (.ref v0), some (.ref v1), none, none] [.int (if (if (mi M v0 5) = 0 then (1 : Int32) else (0 : Int32)) = (if (mi M v0 9) = 0 then (1 : Int32) else (0 : Int32)) then (1 : Int32) else (0 : Int32))] M := by
        refine G_nmi (fun x4 hx4 => ?_)
        have hf := nm_eq hx4 hf
        refine G_istore_n h dX7_begins_32 (i := 2) rfl (by decide) (L' := [some (.ref v0), some (.ref v1), some (.int x4), none]) rfl rfl ?_
        refine G_aload_n h dX7_begins_33 (i := 0) rfl rfl rfl ?_
        refine gf_X7_28 h dX7_begins_34 h0 rfl ?_
        refine G_iconst h dX7_begins_37 ki_1 rfl ?_
        have hJ : G X E (0, 0) 55 [some (.ref v0), some (.ref v1), some (.int x4), none] [.int (if (mi M v0 5) = (1 : Int32) then if (mi M v1 0) < (6 : Int32) then (0 : Int32) else (1 : Int32) else (0 : Int32))] M := by
          refine G_nmi (fun x7 hx7 => ?_)
          have hf := nm_eq hx7 hf
          refine G_istore_n h dX7_begins_55 (i := 3) rfl (by decide) (L' := [some (.ref v0), some (.ref v1), some (.int x4), some (.int x7)]) rfl rfl ?_
          refine G_aload_n h dX7_begins_56 (i := 0) rfl rfl rfl ?_
          refine gf_X7_25 h dX7_begins_57 h0 rfl ?_
          refine G_iconst h dX7_begins_60 ki_1 rfl ?_
          refine G_icmp_ne h dX7_begins_61 (tgt := 72) (by decide) rfl (fun c8 => ?_) (fun c8 => ?_)
          · have hf := it_f c8 hf
            refine G_iconst h dX7_begins_72 ki_0 rfl ?_
            exact twZ hR dX7_begins_73 (Or.inl rfl) hf
          · have hf := it_t c8 hf
            refine G_iload_n h dX7_begins_64 (i := 2) rfl rfl rfl ?_
            refine G_if_eq h dX7_begins_65 (tgt := 72) (by decide) rfl (fun c9 => ?_) (fun c9 => ?_)
            · have hf := it_t c9 hf
              refine G_iconst h dX7_begins_72 ki_0 rfl ?_
              exact twZ hR dX7_begins_73 (Or.inl rfl) hf
            · have hf := it_f c9 hf
              refine G_iload_n h dX7_begins_68 (i := 3) rfl rfl rfl ?_
              refine G_if_eq h dX7_begins_69 (tgt := 74) (by decide) rfl (fun c10 => ?_) (fun c10 => ?_)
              · have hf := it_t c10 hf
                refine G_aload_n h dX7_begins_74 (i := 0) rfl rfl rfl ?_
                refine G_aload_n h dX7_begins_75 (i := 0) rfl rfl rfl ?_
                refine gf_X7_28 h dX7_begins_76 h0 rfl ?_
                refine pf_X7_31 h dX7_begins_79 h0 rfl ?_
                refine G_aload_n h dX7_begins_82 (i := 0) rfl rfl rfl ?_
                refine G_iconst h dX7_begins_83 ki_0 rfl ?_
                refine pf_X7_34 h dX7_begins_84 h0 rfl ?_
                refine G_iconst h dX7_begins_87 ki_1 rfl ?_
                exact twZ hR dX7_begins_88 (Or.inr rfl) hf
              · have hf := it_f c10 hf
                refine G_iconst h dX7_begins_72 ki_0 rfl ?_
                exact twZ hR dX7_begins_73 (Or.inl rfl) hf
        refine G_icmp_ne h dX7_begins_38 (tgt := 54) (by decide) rfl (fun c5 => ?_) (fun c5 => ?_)
        · refine G_iconst h dX7_begins_54 ki_0 rfl ?_
          exact G_ifn c5 hJ
        · refine G_aload_n h dX7_begins_41 (i := 1) rfl rfl rfl ?_
          refine gf_X7_73 h dX7_begins_42 h1 rfl ?_
          refine G_bipush h dX7_begins_45 kb_6 rfl ?_
          refine G_icmp_lt h dX7_begins_47 (tgt := 54) (by decide) rfl (fun c6 => ?_) (fun c6 => ?_)
          · refine G_iconst h dX7_begins_54 ki_0 rfl ?_
            exact G_ifp c6 (G_ifp c5 hJ)
          · refine G_iconst h dX7_begins_50 ki_1 rfl ?_
            refine G_goto h dX7_begins_51 (tgt := 55) (by decide) ?_
            exact G_ifn c6 (G_ifp c5 hJ)
      refine G_icmp_ne h dX7_begins_24 (tgt := 31) (by decide) rfl (fun c3 => ?_) (fun c3 => ?_)
      · refine G_iconst h dX7_begins_31 ki_0 rfl ?_
        exact G_ifn c3 hJ
      · refine G_iconst h dX7_begins_27 ki_1 rfl ?_
        refine G_goto h dX7_begins_28 (tgt := 32) (by decide) ?_
        exact G_ifp c3 hJ
    refine G_if_ne h dX7_begins_16 (tgt := 23) (by decide) rfl (fun c2 => ?_) (fun c2 => ?_)
    · refine G_iconst h dX7_begins_23 ki_0 rfl ?_
      exact G_ifn c2 hJ
    · refine G_iconst h dX7_begins_19 ki_1 rfl ?_
      refine G_goto h dX7_begins_20 (tgt := 24) (by decide) ?_
      exact G_ifp c2 hJ
  refine G_if_ne h dX7_begins_4 (tgt := 11) (by decide) rfl (fun c1 => ?_) (fun c1 => ?_)
  · refine G_iconst h dX7_begins_11 ki_0 rfl ?_
    exact G_ifn c1 hJ
  · refine G_iconst h dX7_begins_7 ki_1 rfl ?_
    refine G_goto h dX7_begins_8 (tgt := 12) (by decide) ?_
    exact G_ifp c1 hJ
def rm_X7_byteAt : Room := { frames := 1, cells := 0, slots := 0, locals := 22 }
def f_X7_byteAt (E : Env1) (M : Mem) (v0 : Nat) (v1 : Int32) : Option (Int32) :=
  if (f_X8_within E M v1 (0 : Int32) (149 : Int32)) = 0 then (some (-1 : Int32))
  else (
    if (mi M v0 0) ≤ v1 then (some (-1 : Int32))
    else (gd v1 150 (some (mi M (rr E v0 1) (ix v1)))))
set_option maxRecDepth 100000 in
set_option maxHeartbeats 4000000 in
theorem ok_X7_byteAt {E : Env1} (hE : WF E) (l0 : Launch) {M : Mem} {v0 : Nat} {v1 : Int32} {r : Int32} (h0 : isK E v0 6) (hf : f_X7_byteAt E M v0 v1 = some r) : Met l0 yX7_byteAt (wsA yX7_byteAt cX7_byteAt 2 (some .int)) rm_X7_byteAt (CP E M [.ref v0, .int v1]) (CQi E r M) 0 0 (eA E) := by
  unfold f_X7_byteAt at hf
  refine mtI l0 (by decide +kernel) (Nat.le_of_ble_eq_true rfl) (L0 := [some (.ref v0), some (.int v1)]) rfl (fun X h hR => ?_)
  refine G_iload_n h dX7_byteAt_0 (i := 1) rfl rfl rfl ?_
  refine G_iconst h dX7_byteAt_1 ki_0 rfl ?_
  refine G_sipush h dX7_byteAt_2 ks_149 rfl ?_
  refine cl_X7_43 h (ok_X8_within hE _  (r := f_X8_within E M v1 (0 : Int32) (149 : Int32)) rfl) dX7_byteAt_5 (as := [.int v1, .int (0 : Int32), .int (149 : Int32)]) rfl rfl ⟨rfl, rfl, Nat.le_of_ble_eq_true rfl, Nat.le_of_ble_eq_true rfl⟩ rfl (Nat.le_of_ble_eq_true rfl) (fun z1 => ?_)
  refine G_if_eq h dX7_byteAt_8 (tgt := 28) (by decide) rfl (fun c2 => ?_) (fun c2 => ?_)
  · have hf := it_t c2 hf
    refine G_iconst h dX7_byteAt_28 ki_m1 rfl ?_
    exact roI hR dX7_byteAt_29 hf
  · have hf := it_f c2 hf
    refine G_iload_n h dX7_byteAt_11 (i := 1) rfl rfl rfl ?_
    refine G_aload_n h dX7_byteAt_12 (i := 0) rfl rfl rfl ?_
    refine gf_X7_9 h dX7_byteAt_13 h0 rfl ?_
    refine G_icmp_ge h dX7_byteAt_16 (tgt := 28) (by decide) rfl (fun c3 => ?_) (fun c3 => ?_)
    · have hf := it_t c3 hf
      refine G_iconst h dX7_byteAt_28 ki_m1 rfl ?_
      exact roI hR dX7_byteAt_29 hf
    · have hf := it_f c3 hf
      refine G_aload_n h dX7_byteAt_19 (i := 0) rfl rfl rfl ?_
      refine gf_X7_15 h hE dX7_byteAt_20 h0 rfl ?_
      refine G_iload_n h dX7_byteAt_23 (i := 1) rfl rfl rfl ?_
      obtain ⟨g4, hf⟩ := gd_some hf
      refine G_iald h dX7_byteAt_24 ((w_6_1 hE h0).2) g4 (jx := (ix v1)) rfl rfl ?_
      refine G_goto h dX7_byteAt_25 (tgt := 29) (by decide) ?_
      exact roI hR dX7_byteAt_29 hf
def rm_X7_behindRun : Room := { frames := 2, cells := 0, slots := 0, locals := 43 }
def b_X7_behindRun_L3 (E : Env1) (M : Mem) (k3 : Nat → Int32 → Int32 → Int32 → (Option (Int32))) (v0 : Nat) (v2 : Int32) (v3 : Int32) (v4 : Int32) : Option (Int32) :=
  if (mi M v0 0) ≤ v4 then (some (mi M v0 0))
  else (
    (f_X7_byteAt E M v0 v4).bind fun x2 =>
    if (f_X8_within E M x2 v2 v3) = 0 then (some v4)
    else (k3 v0 v2 v3 (v4 + 1)))
set_option maxRecDepth 100000 in
set_option maxHeartbeats 4000000 in
theorem ob_X7_behindRun_L3 {X : Ctx} {l0 : Launch} {E : Env1} (h : Cx X l0 E RX7 cX7_behindRun (some .int) 5 rm_X7_behindRun) (hE : WF E) {M : Mem} {r : Int32} (hR : RetI X E cX7_behindRun r M) {k3 : Nat → Int32 → Int32 → Int32 → (Option (Int32))} (hk3 : ∀ (v0 : Nat) (v2 : Int32) (v3 : Int32) (v4 : Int32), isK E v0 6 → k3 v0 v2 v3 v4 = some r → G X E (0, 0) 3 [some (.ref v0), none, some (.int v2), some (.int v3), some (.int v4)] [] M) {v0 : Nat} {v2 : Int32} {v3 : Int32} {v4 : Int32} (h_v0 : isK E v0 6) (hf : b_X7_behindRun_L3 E M k3 v0 v2 v3 v4 = some r) : G X E (0, 0) 3 [some (.ref v0), none, some (.int v2), some (.int v3), some (.int v4)] [] M := by
  unfold b_X7_behindRun_L3 at hf
  refine G_iload h dX7_behindRun_3 rfl rfl ?_
  refine G_aload_n h dX7_behindRun_5 (i := 0) rfl rfl rfl ?_
  refine gf_X7_9 h dX7_behindRun_6 h_v0 rfl ?_
  refine G_icmp_ge h dX7_behindRun_9 (tgt := 35) (by decide) rfl (fun c1 => ?_) (fun c1 => ?_)
  · have hf := it_t c1 hf
    refine G_aload_n h dX7_behindRun_35 (i := 0) rfl rfl rfl ?_
    refine gf_X7_9 h dX7_behindRun_36 h_v0 rfl ?_
    exact roI hR dX7_behindRun_39 hf
  · have hf := it_f c1 hf
    refine G_aload_n h dX7_behindRun_12 (i := 0) rfl rfl rfl ?_
    refine G_iload h dX7_behindRun_13 rfl rfl ?_
    obtain ⟨x2, hx2, hf⟩ := bd hf
    refine cl_X7_117 h (ok_X7_byteAt hE _ h_v0 hx2) dX7_behindRun_15 h_v0 (as := [.int v4]) rfl rfl ⟨rfl, rfl, Nat.le_of_ble_eq_true rfl, Nat.le_of_ble_eq_true rfl⟩ rfl (Nat.le_of_ble_eq_true rfl) ?_
    refine G_iload_n h dX7_behindRun_18 (i := 2) rfl rfl rfl ?_
    refine G_iload_n h dX7_behindRun_19 (i := 3) rfl rfl rfl ?_
    refine cl_X7_43 h (ok_X8_within hE _  (r := f_X8_within E M x2 v2 v3) rfl) dX7_behindRun_20 (as := [.int x2, .int v2, .int v3]) rfl rfl ⟨rfl, rfl, Nat.le_of_ble_eq_true rfl, Nat.le_of_ble_eq_true rfl⟩ rfl (Nat.le_of_ble_eq_true rfl) (fun z3 => ?_)
    refine G_if_ne h dX7_behindRun_23 (tgt := 29) (by decide) rfl (fun c4 => ?_) (fun c4 => ?_)
    · have hf := it_f c4 hf
      refine G_iinc2 h dX7_behindRun_29 rfl ki_1 (by decide) (L' := [some (.ref v0), none, some (.int v2), some (.int v3), some (.int (v4 + 1))]) rfl rfl ?_
      refine G_goto h dX7_behindRun_32 (tgt := 3) (by decide) ?_
      exact hk3 _ _ _ _ h_v0 hf
    · have hf := it_t c4 hf
      refine G_iload h dX7_behindRun_26 rfl rfl ?_
      exact roI hR dX7_behindRun_28 hf
def f_X7_behindRun_L3 (E : Env1) (M : Mem) : Nat → Nat → Int32 → Int32 → Int32 → (Option (Int32))
  | 0 => fun _ _ _ _ => none
  | n + 1 => b_X7_behindRun_L3 E M (f_X7_behindRun_L3 E M n)
theorem o_X7_behindRun_L3 {X : Ctx} {l0 : Launch} {E : Env1} (h : Cx X l0 E RX7 cX7_behindRun (some .int) 5 rm_X7_behindRun) (hE : WF E) {M : Mem} {r : Int32} (hR : RetI X E cX7_behindRun r M) : ∀ (n : Nat) (v0 : Nat) (v2 : Int32) (v3 : Int32) (v4 : Int32), isK E v0 6 → f_X7_behindRun_L3 E M n v0 v2 v3 v4 = some r → G X E (0, 0) 3 [some (.ref v0), none, some (.int v2), some (.int v3), some (.int v4)] [] M := by
  intro n
  induction n with
  | zero =>
    intro _ _ _ _ a0 hf
    have h0 : (none : Option (Int32)) = some r := hf
    cases h0
  | succ n ih =>
    intro _ _ _ _ a0 hf
    exact ob_X7_behindRun_L3 h hE hR  ih a0 hf
def f_X7_behindRun (E : Env1) (M : Mem) (v0 : Nat) (v1 : Int32) (v2 : Int32) (v3 : Int32) : Option (Int32) :=
  f_X7_behindRun_L3 E M FU v0 v2 v3 v1
set_option maxRecDepth 100000 in
set_option maxHeartbeats 4000000 in
theorem ok_X7_behindRun {E : Env1} (hE : WF E) (l0 : Launch) {M : Mem} {v0 : Nat} {v1 : Int32} {v2 : Int32} {v3 : Int32} {r : Int32} (h0 : isK E v0 6) (hf : f_X7_behindRun E M v0 v1 v2 v3 = some r) : Met l0 yX7_behindRun (wsA yX7_behindRun cX7_behindRun 5 (some .int)) rm_X7_behindRun (CP E M [.ref v0, .int v1, .int v2, .int v3]) (CQi E r M) 0 0 (eA E) := by
  unfold f_X7_behindRun at hf
  refine mtI l0 (by decide +kernel) (Nat.le_of_ble_eq_true rfl) (L0 := [some (.ref v0), some (.int v1), some (.int v2), some (.int v3), none]) rfl (fun X h hR => ?_)
  refine G_iload_n h dX7_behindRun_0 (i := 1) rfl rfl rfl ?_
  refine G_istore h dX7_behindRun_1  (by decide) (L' := [some (.ref v0), some (.int v1), some (.int v2), some (.int v3), some (.int v1)]) rfl rfl ?_
  refine G_mskL [true, false, true, true, true] (L' := [some (.ref v0), none, some (.int v2), some (.int v3), some (.int v1)]) rfl ?_
  exact o_X7_behindRun_L3 h hE hR  FU _ _ _ _ h0 hf
def rm_X7_highest : Room := { frames := 0, cells := 0, slots := 0, locals := 0 }
def f_X7_highest (E : Env1) (M : Mem) (v0 : Nat) (v1 : Int32) : Int32 :=
  if (mi M v0 6) = 0 then (5 : Int32)
  else if (mi M v0 6) = 1 then (
    if (mi M v0 7) = 0 then (5 : Int32) else (12 : Int32))
  else if (mi M v0 6) = 2 then (
    if (mi M v0 7) = 0 then v1 - (1 : Int32) else (7 : Int32))
  else if (mi M v0 6) = 3 then (6 : Int32)
  else if (mi M v0 6) = 4 then (
    if (mi M v0 7) = 0 then v1 - (1 : Int32) else (8 : Int32))
  else (99 : Int32)
set_option maxRecDepth 100000 in
set_option maxHeartbeats 4000000 in
theorem ok_X7_highest {E : Env1} (hE : WF E) (l0 : Launch) {M : Mem} {v0 : Nat} {v1 : Int32} {r : Int32} (h0 : isK E v0 6) (hf : f_X7_highest E M v0 v1 = r) : Met l0 yX7_highest (wsA yX7_highest cX7_highest 2 (some .int)) rm_X7_highest (CP E M [.ref v0, .int v1]) (CQi E r M) 0 0 (eA E) := by
  unfold f_X7_highest at hf
  refine mtI l0 (by decide +kernel) (Nat.le_of_ble_eq_true rfl) (L0 := [some (.ref v0), some (.int v1)]) rfl (fun X h hR => ?_)
  refine G_aload_n h dX7_highest_0 (i := 0) rfl rfl rfl ?_
  refine gf_X7_31 h dX7_highest_1 h0 rfl ?_
  by_cases c1 : (mi M v0 6) = 0
  · have hf := it_t c1 hf
    refine G_tsIn h dX7_highest_4 c1 (v := 0) (j := 0) (by decide) (by decide) rfl (tgt := 40) (by decide) ?_
    refine G_iconst h dX7_highest_40 ki_5 rfl ?_
    exact toI hR dX7_highest_41 hf
  have hf := it_f c1 hf
  by_cases c2 : (mi M v0 6) = 1
  · have hf := it_t c2 hf
    refine G_tsIn h dX7_highest_4 c2 (v := 1) (j := 1) (by decide) (by decide) rfl (tgt := 42) (by decide) ?_
    refine G_aload_n h dX7_highest_42 (i := 0) rfl rfl rfl ?_
    refine gf_X7_34 h dX7_highest_43 h0 rfl ?_
    have hJ : G X E (0, 0) 55 [some (.ref v0), some (.int v1)] [.int (if (mi M v0 7) = 0 then (5 : Int32) else (12 : Int32))] M := by
      exact toI hR dX7_highest_55 hf
    refine G_if_ne h dX7_highest_46 (tgt := 53) (by decide) rfl (fun c3 => ?_) (fun c3 => ?_)
    · refine G_bipush h dX7_highest_53 kb_12 rfl ?_
      exact G_ifn c3 hJ
    · refine G_iconst h dX7_highest_49 ki_5 rfl ?_
      refine G_goto h dX7_highest_50 (tgt := 55) (by decide) ?_
      exact G_ifp c3 hJ
  have hf := it_f c2 hf
  by_cases c4 : (mi M v0 6) = 2
  · have hf := it_t c4 hf
    refine G_tsIn h dX7_highest_4 c4 (v := 2) (j := 2) (by decide) (by decide) rfl (tgt := 56) (by decide) ?_
    refine G_aload_n h dX7_highest_56 (i := 0) rfl rfl rfl ?_
    refine gf_X7_34 h dX7_highest_57 h0 rfl ?_
    have hJ : G X E (0, 0) 71 [some (.ref v0), some (.int v1)] [.int (if (mi M v0 7) = 0 then v1 - (1 : Int32) else (7 : Int32))] M := by
      exact toI hR dX7_highest_71 hf
    refine G_if_ne h dX7_highest_60 (tgt := 69) (by decide) rfl (fun c5 => ?_) (fun c5 => ?_)
    · refine G_bipush h dX7_highest_69 kb_7 rfl ?_
      exact G_ifn c5 hJ
    · refine G_iload_n h dX7_highest_63 (i := 1) rfl rfl rfl ?_
      refine G_iconst h dX7_highest_64 ki_1 rfl ?_
      refine G_isub h dX7_highest_65 rfl ?_
      refine G_goto h dX7_highest_66 (tgt := 71) (by decide) ?_
      exact G_ifp c5 hJ
  have hf := it_f c4 hf
  by_cases c6 : (mi M v0 6) = 3
  · have hf := it_t c6 hf
    refine G_tsIn h dX7_highest_4 c6 (v := 3) (j := 3) (by decide) (by decide) rfl (tgt := 72) (by decide) ?_
    refine G_bipush h dX7_highest_72 kb_6 rfl ?_
    exact toI hR dX7_highest_74 hf
  have hf := it_f c6 hf
  by_cases c7 : (mi M v0 6) = 4
  · have hf := it_t c7 hf
    refine G_tsIn h dX7_highest_4 c7 (v := 4) (j := 4) (by decide) (by decide) rfl (tgt := 75) (by decide) ?_
    refine G_aload_n h dX7_highest_75 (i := 0) rfl rfl rfl ?_
    refine gf_X7_34 h dX7_highest_76 h0 rfl ?_
    have hJ : G X E (0, 0) 90 [some (.ref v0), some (.int v1)] [.int (if (mi M v0 7) = 0 then v1 - (1 : Int32) else (8 : Int32))] M := by
      exact toI hR dX7_highest_90 hf
    refine G_if_ne h dX7_highest_79 (tgt := 88) (by decide) rfl (fun c8 => ?_) (fun c8 => ?_)
    · refine G_bipush h dX7_highest_88 kb_8 rfl ?_
      exact G_ifn c8 hJ
    · refine G_iload_n h dX7_highest_82 (i := 1) rfl rfl rfl ?_
      refine G_iconst h dX7_highest_83 ki_1 rfl ?_
      refine G_isub h dX7_highest_84 rfl ?_
      refine G_goto h dX7_highest_85 (tgt := 90) (by decide) ?_
      exact G_ifp c8 hJ
  have hf := it_f c7 hf
  have nc1 := ne_lit c1 (n := 0) (by decide)
  have nc2 := ne_lit c2 (n := 1) (by decide)
  have nc4 := ne_lit c4 (n := 2) (by decide)
  have nc6 := ne_lit c6 (n := 3) (by decide)
  have nc7 := ne_lit c7 (n := 4) (by decide)
  refine G_tsOut h dX7_highest_4 (by omega) (tgt := 91) (by decide) ?_
  refine G_bipush h dX7_highest_91 kb_99 rfl ?_
  exact toI hR dX7_highest_93 hf
def rm_X7_lowest : Room := { frames := 0, cells := 0, slots := 0, locals := 0 }
def f_X7_lowest (E : Env1) (M : Mem) (v0 : Nat) : Int32 :=
  nm (if (mi M v0 6) = (5 : Int32) then (1 : Int32) else if (mi M v0 6) = (1 : Int32) then if (mi M v0 7) = (1 : Int32) then (1 : Int32) else (0 : Int32) else (0 : Int32)) fun x4 =>
  if x4 = 0 then (0 : Int32) else (1 : Int32)
set_option maxRecDepth 100000 in
set_option maxHeartbeats 4000000 in
theorem ok_X7_lowest {E : Env1} (hE : WF E) (l0 : Launch) {M : Mem} {v0 : Nat} {r : Int32} (h0 : isK E v0 6) (hf : f_X7_lowest E M v0 = r) : Met l0 yX7_lowest (wsA yX7_lowest cX7_lowest 2 (some .int)) rm_X7_lowest (CP E M [.ref v0]) (CQi E r M) 0 0 (eA E) := by
  unfold f_X7_lowest at hf
  refine mtI l0 (by decide +kernel) (Nat.le_of_ble_eq_true rfl) (L0 := [some (.ref v0), none]) rfl (fun X h hR => ?_)
  refine G_aload_n h dX7_lowest_0 (i := 0) rfl rfl rfl ?_
  refine gf_X7_31 h dX7_lowest_1 h0 rfl ?_
  refine G_iconst h dX7_lowest_4 ki_5 rfl ?_
  have hJ : G X E (0, 0) 29 [some (.ref v0), none] [.int (if (mi M v0 6) = (5 : Int32) then (1 : Int32) else if (mi M v0 6) = (1 : Int32) then if (mi M v0 7) = (1 : Int32) then (1 : Int32) else (0 : Int32) else (0 : Int32))] M := by
    refine G_nmi (fun x4 hx4 => ?_)
    have hf := nm_eq hx4 hf
    refine G_istore_n h dX7_lowest_29 (i := 1) rfl (by decide) (L' := [some (.ref v0), some (.int x4)]) rfl rfl ?_
    refine G_iload_n h dX7_lowest_30 (i := 1) rfl rfl rfl ?_
    have hJ : G X E (0, 0) 39 [some (.ref v0), some (.int x4)] [.int (if x4 = 0 then (0 : Int32) else (1 : Int32))] M := by
      exact toI hR dX7_lowest_39 hf
    refine G_if_eq h dX7_lowest_31 (tgt := 38) (by decide) rfl (fun c5 => ?_) (fun c5 => ?_)
    · refine G_iconst h dX7_lowest_38 ki_0 rfl ?_
      exact G_ifp c5 hJ
    · refine G_iconst h dX7_lowest_34 ki_1 rfl ?_
      refine G_goto h dX7_lowest_35 (tgt := 39) (by decide) ?_
      exact G_ifn c5 hJ
  refine G_icmp_eq h dX7_lowest_5 (tgt := 24) (by decide) rfl (fun c1 => ?_) (fun c1 => ?_)
  · refine G_iconst h dX7_lowest_24 ki_1 rfl ?_
    refine G_goto h dX7_lowest_25 (tgt := 29) (by decide) ?_
    exact G_ifp c1 hJ
  · refine G_aload_n h dX7_lowest_8 (i := 0) rfl rfl rfl ?_
    refine gf_X7_31 h dX7_lowest_9 h0 rfl ?_
    refine G_iconst h dX7_lowest_12 ki_1 rfl ?_
    refine G_icmp_ne h dX7_lowest_13 (tgt := 28) (by decide) rfl (fun c2 => ?_) (fun c2 => ?_)
    · refine G_iconst h dX7_lowest_28 ki_0 rfl ?_
      exact G_ifn c2 (G_ifn c1 hJ)
    · refine G_aload_n h dX7_lowest_16 (i := 0) rfl rfl rfl ?_
      refine gf_X7_34 h dX7_lowest_17 h0 rfl ?_
      refine G_iconst h dX7_lowest_20 ki_1 rfl ?_
      refine G_icmp_ne h dX7_lowest_21 (tgt := 28) (by decide) rfl (fun c3 => ?_) (fun c3 => ?_)
      · refine G_iconst h dX7_lowest_28 ki_0 rfl ?_
        exact G_ifn c3 (G_ifp c2 (G_ifn c1 hJ))
      · refine G_iconst h dX7_lowest_24 ki_1 rfl ?_
        refine G_goto h dX7_lowest_25 (tgt := 29) (by decide) ?_
        exact G_ifp c3 (G_ifp c2 (G_ifn c1 hJ))
def rm_X7_reads : Room := { frames := 4, cells := 0, slots := 0, locals := 85 }
def b_X7_reads_L20 (E : Env1) (M : Mem) (k20 : Nat → Nat → Int32 → (Option (Int32))) (v0 : Nat) (v1 : Nat) (v2 : Int32) : Option (Int32) :=
  if (Int32.ofNat (slen v1)) ≤ v2 then (some (1 : Int32))
  else (
    (f_X7_byteAt E M v0 ((mi M v0 2) + v2)).bind fun x2 =>
    gd v2 (slen v1) (if x2 = (sch v1 (ix v2)) then (k20 v0 v1 (v2 + 1))
    else (some (0 : Int32))))
set_option maxRecDepth 100000 in
set_option maxHeartbeats 4000000 in
theorem ob_X7_reads_L20 {X : Ctx} {l0 : Launch} {E : Env1} (h : Cx X l0 E RX7 cX7_reads (some .boolean) 3 rm_X7_reads) (hE : WF E) {M : Mem} {r : Int32} (hR : RetZ X E cX7_reads r M) {k20 : Nat → Nat → Int32 → (Option (Int32))} (hk20 : ∀ (v0 : Nat) (v1 : Nat) (v2 : Int32), isK E v0 6 → v1 < 6 → k20 v0 v1 v2 = some r → G X E (0, 0) 20 [some (.ref v0), some (.ref (sK E v1)), some (.int v2)] [] M) {v0 : Nat} {v1 : Nat} {v2 : Int32} (h_v0 : isK E v0 6) (h_v1 : v1 < 6) (hf : b_X7_reads_L20 E M k20 v0 v1 v2 = some r) : G X E (0, 0) 20 [some (.ref v0), some (.ref (sK E v1)), some (.int v2)] [] M := by
  unfold b_X7_reads_L20 at hf
  refine G_iload_n h dX7_reads_20 (i := 2) rfl rfl rfl ?_
  refine G_aload_n h dX7_reads_21 (i := 1) rfl rfl rfl ?_
  refine cl_X7_134 h h_v1 dX7_reads_22 rfl ⟨rfl, rfl, Nat.le_of_ble_eq_true rfl, Nat.le_of_ble_eq_true rfl⟩ (Nat.le_of_ble_eq_true rfl) ?_
  refine G_icmp_ge h dX7_reads_25 (tgt := 54) (by decide) rfl (fun c1 => ?_) (fun c1 => ?_)
  · have hf := it_t c1 hf
    refine G_iconst h dX7_reads_54 ki_1 rfl ?_
    exact roZ hR dX7_reads_55 (Or.inr rfl) hf
  · have hf := it_f c1 hf
    refine G_aload_n h dX7_reads_28 (i := 0) rfl rfl rfl ?_
    refine G_aload_n h dX7_reads_29 (i := 0) rfl rfl rfl ?_
    refine gf_X7_19 h dX7_reads_30 h_v0 rfl ?_
    refine G_iload_n h dX7_reads_33 (i := 2) rfl rfl rfl ?_
    refine G_iadd h dX7_reads_34 rfl ?_
    obtain ⟨x2, hx2, hf⟩ := bd hf
    refine cl_X7_117 h (ok_X7_byteAt hE _ h_v0 hx2) dX7_reads_35 h_v0 (as := [.int ((mi M v0 2) + v2)]) rfl rfl ⟨rfl, rfl, Nat.le_of_ble_eq_true rfl, Nat.le_of_ble_eq_true rfl⟩ rfl (Nat.le_of_ble_eq_true rfl) ?_
    refine G_aload_n h dX7_reads_38 (i := 1) rfl rfl rfl ?_
    refine G_iload_n h dX7_reads_39 (i := 2) rfl rfl rfl ?_
    obtain ⟨g3, hf⟩ := gd_some hf
    refine cl_X7_139 h h_v1 g3 dX7_reads_40 rfl ⟨rfl, rfl, Nat.le_of_ble_eq_true rfl, Nat.le_of_ble_eq_true rfl⟩ (Nat.le_of_ble_eq_true rfl) ?_
    refine G_icmp_eq h dX7_reads_43 (tgt := 48) (by decide) rfl (fun c4 => ?_) (fun c4 => ?_)
    · have hf := it_t c4 hf
      refine G_iinc2 h dX7_reads_48 rfl ki_1 (by decide) (L' := [some (.ref v0), some (.ref (sK E v1)), some (.int (v2 + 1))]) rfl rfl ?_
      refine G_goto h dX7_reads_51 (tgt := 20) (by decide) ?_
      exact hk20 _ _ _ h_v0 h_v1 hf
    · have hf := it_f c4 hf
      refine G_iconst h dX7_reads_46 ki_0 rfl ?_
      exact roZ hR dX7_reads_47 (Or.inl rfl) hf
def f_X7_reads_L20 (E : Env1) (M : Mem) : Nat → Nat → Nat → Int32 → (Option (Int32))
  | 0 => fun _ _ _ => none
  | n + 1 => b_X7_reads_L20 E M (f_X7_reads_L20 E M n)
theorem o_X7_reads_L20 {X : Ctx} {l0 : Launch} {E : Env1} (h : Cx X l0 E RX7 cX7_reads (some .boolean) 3 rm_X7_reads) (hE : WF E) {M : Mem} {r : Int32} (hR : RetZ X E cX7_reads r M) : ∀ (n : Nat) (v0 : Nat) (v1 : Nat) (v2 : Int32), isK E v0 6 → v1 < 6 → f_X7_reads_L20 E M n v0 v1 v2 = some r → G X E (0, 0) 20 [some (.ref v0), some (.ref (sK E v1)), some (.int v2)] [] M := by
  intro n
  induction n with
  | zero =>
    intro _ _ _ a0 a1 hf
    have h0 : (none : Option (Int32)) = some r := hf
    cases h0
  | succ n ih =>
    intro _ _ _ a0 a1 hf
    exact ob_X7_reads_L20 h hE hR  ih a0 a1 hf
def f_X7_reads (E : Env1) (M : Mem) (v0 : Nat) (v1 : Nat) : Option (Int32) :=
  if (Int32.ofNat (slen v1)) = ((mi M v0 3) - (mi M v0 2)) then (f_X7_reads_L20 E M FU v0 v1 (0 : Int32))
  else (some (0 : Int32))
set_option maxRecDepth 100000 in
set_option maxHeartbeats 4000000 in
theorem ok_X7_reads {E : Env1} (hE : WF E) (l0 : Launch) {M : Mem} {v0 : Nat} {v1 : Nat} {r : Int32} (h0 : isK E v0 6) (h1 : v1 < 6) (hf : f_X7_reads E M v0 v1 = some r) : Met l0 yX7_reads (wsA yX7_reads cX7_reads 3 (some .boolean)) rm_X7_reads (CP E M [.ref v0, .ref (sK E v1)]) (CQz E r M) 0 0 (eA E) := by
  unfold f_X7_reads at hf
  refine mtZ l0 (by decide +kernel) (Nat.le_of_ble_eq_true rfl) (L0 := [some (.ref v0), some (.ref (sK E v1)), none]) rfl (fun X h hR => ?_)
  refine G_aload_n h dX7_reads_0 (i := 1) rfl rfl rfl ?_
  refine cl_X7_134 h h1 dX7_reads_1 rfl ⟨rfl, rfl, Nat.le_of_ble_eq_true rfl, Nat.le_of_ble_eq_true rfl⟩ (Nat.le_of_ble_eq_true rfl) ?_
  refine G_aload_n h dX7_reads_4 (i := 0) rfl rfl rfl ?_
  refine gf_X7_22 h dX7_reads_5 h0 rfl ?_
  refine G_aload_n h dX7_reads_8 (i := 0) rfl rfl rfl ?_
  refine gf_X7_19 h dX7_reads_9 h0 rfl ?_
  refine G_isub h dX7_reads_12 rfl ?_
  refine G_icmp_eq h dX7_reads_13 (tgt := 18) (by decide) rfl (fun c1 => ?_) (fun c1 => ?_)
  · have hf := it_t c1 hf
    refine G_iconst h dX7_reads_18 ki_0 rfl ?_
    refine G_istore_n h dX7_reads_19 (i := 2) rfl (by decide) (L' := [some (.ref v0), some (.ref (sK E v1)), some (.int (0 : Int32))]) rfl rfl ?_
    exact o_X7_reads_L20 h hE hR  FU _ _ _ h0 h1 hf
  · have hf := it_f c1 hf
    refine G_iconst h dX7_reads_16 ki_0 rfl ?_
    exact roZ hR dX7_reads_17 (Or.inl rfl) hf
def rm_X7_wordRead : Room := { frames := 5, cells := 0, slots := 0, locals := 107 }
def b_X7_wordRead_L2 (E : Env1) (M : Mem) (k2 : Nat → Int32 → (Option (Int32))) (v0 : Nat) (v1 : Int32) : Option (Int32) :=
  if (5 : Int32) < v1 then (some (-1 : Int32))
  else (
    (f_X7_reads E M v0 (snm v1)).bind fun x3 =>
    if x3 = 0 then (k2 v0 (v1 + 1))
    else (some v1))
set_option maxRecDepth 100000 in
set_option maxHeartbeats 4000000 in
theorem ob_X7_wordRead_L2 {X : Ctx} {l0 : Launch} {E : Env1} (h : Cx X l0 E RX7 cX7_wordRead (some .int) 2 rm_X7_wordRead) (hE : WF E) {M : Mem} {r : Int32} (hR : RetI X E cX7_wordRead r M) {k2 : Nat → Int32 → (Option (Int32))} (hk2 : ∀ (v0 : Nat) (v1 : Int32), isK E v0 6 → k2 v0 v1 = some r → G X E (0, 0) 2 [some (.ref v0), some (.int v1)] [] M) {v0 : Nat} {v1 : Int32} (h_v0 : isK E v0 6) (hf : b_X7_wordRead_L2 E M k2 v0 v1 = some r) : G X E (0, 0) 2 [some (.ref v0), some (.int v1)] [] M := by
  unfold b_X7_wordRead_L2 at hf
  refine G_iload_n h dX7_wordRead_2 (i := 1) rfl rfl rfl ?_
  refine G_iconst h dX7_wordRead_3 ki_5 rfl ?_
  refine G_icmp_gt h dX7_wordRead_4 (tgt := 26) (by decide) rfl (fun c1 => ?_) (fun c1 => ?_)
  · have hf := it_t c1 hf
    refine G_iconst h dX7_wordRead_26 ki_m1 rfl ?_
    exact roI hR dX7_wordRead_27 hf
  · have hf := it_f c1 hf
    refine G_aload_n h dX7_wordRead_7 (i := 0) rfl rfl rfl ?_
    refine G_iload_n h dX7_wordRead_8 (i := 1) rfl rfl rfl ?_
    refine cl_X7_126 h dX7_wordRead_9 rfl ⟨rfl, rfl, Nat.le_of_ble_eq_true rfl, Nat.le_of_ble_eq_true rfl⟩ (Nat.le_of_ble_eq_true rfl) ?_
    obtain ⟨x3, hx3, hf⟩ := bd hf
    refine cl_X7_130 h (ok_X7_reads hE _ h_v0 (snm_lt v1) hx3) dX7_wordRead_12 h_v0 (as := [.ref (sK E (snm v1))]) rfl rfl ⟨rfl, rfl, Nat.le_of_ble_eq_true rfl, Nat.le_of_ble_eq_true rfl⟩ rfl (Nat.le_of_ble_eq_true rfl) (fun z2 => ?_)
    refine G_if_eq h dX7_wordRead_15 (tgt := 20) (by decide) rfl (fun c4 => ?_) (fun c4 => ?_)
    · have hf := it_t c4 hf
      refine G_iinc2 h dX7_wordRead_20 rfl ki_1 (by decide) (L' := [some (.ref v0), some (.int (v1 + 1))]) rfl rfl ?_
      refine G_goto h dX7_wordRead_23 (tgt := 2) (by decide) ?_
      exact hk2 _ _ h_v0 hf
    · have hf := it_f c4 hf
      refine G_iload_n h dX7_wordRead_18 (i := 1) rfl rfl rfl ?_
      exact roI hR dX7_wordRead_19 hf
def f_X7_wordRead_L2 (E : Env1) (M : Mem) : Nat → Nat → Int32 → (Option (Int32))
  | 0 => fun _ _ => none
  | n + 1 => b_X7_wordRead_L2 E M (f_X7_wordRead_L2 E M n)
theorem o_X7_wordRead_L2 {X : Ctx} {l0 : Launch} {E : Env1} (h : Cx X l0 E RX7 cX7_wordRead (some .int) 2 rm_X7_wordRead) (hE : WF E) {M : Mem} {r : Int32} (hR : RetI X E cX7_wordRead r M) : ∀ (n : Nat) (v0 : Nat) (v1 : Int32), isK E v0 6 → f_X7_wordRead_L2 E M n v0 v1 = some r → G X E (0, 0) 2 [some (.ref v0), some (.int v1)] [] M := by
  intro n
  induction n with
  | zero =>
    intro _ _ a0 hf
    have h0 : (none : Option (Int32)) = some r := hf
    cases h0
  | succ n ih =>
    intro _ _ a0 hf
    exact ob_X7_wordRead_L2 h hE hR  ih a0 hf
def f_X7_wordRead (E : Env1) (M : Mem) (v0 : Nat) : Option (Int32) :=
  f_X7_wordRead_L2 E M FU v0 (0 : Int32)
set_option maxRecDepth 100000 in
set_option maxHeartbeats 4000000 in
theorem ok_X7_wordRead {E : Env1} (hE : WF E) (l0 : Launch) {M : Mem} {v0 : Nat} {r : Int32} (h0 : isK E v0 6) (hf : f_X7_wordRead E M v0 = some r) : Met l0 yX7_wordRead (wsA yX7_wordRead cX7_wordRead 2 (some .int)) rm_X7_wordRead (CP E M [.ref v0]) (CQi E r M) 0 0 (eA E) := by
  unfold f_X7_wordRead at hf
  refine mtI l0 (by decide +kernel) (Nat.le_of_ble_eq_true rfl) (L0 := [some (.ref v0), none]) rfl (fun X h hR => ?_)
  refine G_iconst h dX7_wordRead_0 ki_0 rfl ?_
  refine G_istore_n h dX7_wordRead_1 (i := 1) rfl (by decide) (L' := [some (.ref v0), some (.int (0 : Int32))]) rfl rfl ?_
  exact o_X7_wordRead_L2 h hE hR  FU _ _ h0 hf
def rm_X7_numberRead : Room := { frames := 2, cells := 0, slots := 0, locals := 43 }
def b_X7_numberRead_L7 (E : Env1) (M : Mem) (k7 : Nat → Int32 → Int32 → (Option (Int32))) (v0 : Nat) (v1 : Int32) (v2 : Int32) : Option (Int32) :=
  if (mi M v0 3) ≤ v2 then (some v1)
  else (
    if ((mi M v0 2) + (2 : Int32)) ≤ v2 then (some v1)
    else (
      (f_X7_byteAt E M v0 v2).bind fun x3 =>
      nm ((((10 : Int32) * v1) + x3) - (48 : Int32)) fun x4 =>
      k7 v0 x4 (v2 + 1)))
set_option maxRecDepth 100000 in
set_option maxHeartbeats 4000000 in
theorem ob_X7_numberRead_L7 {X : Ctx} {l0 : Launch} {E : Env1} (h : Cx X l0 E RX7 cX7_numberRead (some .int) 3 rm_X7_numberRead) (hE : WF E) {M : Mem} {r : Int32} (hR : RetI X E cX7_numberRead r M) {k7 : Nat → Int32 → Int32 → (Option (Int32))} (hk7 : ∀ (v0 : Nat) (v1 : Int32) (v2 : Int32), isK E v0 6 → k7 v0 v1 v2 = some r → G X E (0, 0) 7 [some (.ref v0), some (.int v1), some (.int v2)] [] M) {v0 : Nat} {v1 : Int32} {v2 : Int32} (h_v0 : isK E v0 6) (hf : b_X7_numberRead_L7 E M k7 v0 v1 v2 = some r) : G X E (0, 0) 7 [some (.ref v0), some (.int v1), some (.int v2)] [] M := by
  unfold b_X7_numberRead_L7 at hf
  refine G_iload_n h dX7_numberRead_7 (i := 2) rfl rfl rfl ?_
  refine G_aload_n h dX7_numberRead_8 (i := 0) rfl rfl rfl ?_
  refine gf_X7_22 h dX7_numberRead_9 h_v0 rfl ?_
  refine G_icmp_ge h dX7_numberRead_12 (tgt := 45) (by decide) rfl (fun c1 => ?_) (fun c1 => ?_)
  · have hf := it_t c1 hf
    refine G_iload_n h dX7_numberRead_45 (i := 1) rfl rfl rfl ?_
    exact roI hR dX7_numberRead_46 hf
  · have hf := it_f c1 hf
    refine G_iload_n h dX7_numberRead_15 (i := 2) rfl rfl rfl ?_
    refine G_aload_n h dX7_numberRead_16 (i := 0) rfl rfl rfl ?_
    refine gf_X7_19 h dX7_numberRead_17 h_v0 rfl ?_
    refine G_iconst h dX7_numberRead_20 ki_2 rfl ?_
    refine G_iadd h dX7_numberRead_21 rfl ?_
    refine G_icmp_ge h dX7_numberRead_22 (tgt := 45) (by decide) rfl (fun c2 => ?_) (fun c2 => ?_)
    · have hf := it_t c2 hf
      refine G_iload_n h dX7_numberRead_45 (i := 1) rfl rfl rfl ?_
      exact roI hR dX7_numberRead_46 hf
    · have hf := it_f c2 hf
      refine G_bipush h dX7_numberRead_25 kb_10 rfl ?_
      refine G_iload_n h dX7_numberRead_27 (i := 1) rfl rfl rfl ?_
      refine G_imul h dX7_numberRead_28 rfl ?_
      refine G_aload_n h dX7_numberRead_29 (i := 0) rfl rfl rfl ?_
      refine G_iload_n h dX7_numberRead_30 (i := 2) rfl rfl rfl ?_
      obtain ⟨x3, hx3, hf⟩ := bd hf
      refine cl_X7_117 h (ok_X7_byteAt hE _ h_v0 hx3) dX7_numberRead_31 h_v0 (as := [.int v2]) rfl rfl ⟨rfl, rfl, Nat.le_of_ble_eq_true rfl, Nat.le_of_ble_eq_true rfl⟩ rfl (Nat.le_of_ble_eq_true rfl) ?_
      refine G_iadd h dX7_numberRead_34 rfl ?_
      refine G_bipush h dX7_numberRead_35 kb_48 rfl ?_
      refine G_isub h dX7_numberRead_37 rfl ?_
      refine G_nmi (fun x4 hx4 => ?_)
      have hf := nm_eq hx4 hf
      refine G_istore_n h dX7_numberRead_38 (i := 1) rfl (by decide) (L' := [some (.ref v0), some (.int x4), some (.int v2)]) rfl rfl ?_
      refine G_iinc2 h dX7_numberRead_39 rfl ki_1 (by decide) (L' := [some (.ref v0), some (.int x4), some (.int (v2 + 1))]) rfl rfl ?_
      refine G_goto h dX7_numberRead_42 (tgt := 7) (by decide) ?_
      exact hk7 _ _ _ h_v0 hf
def f_X7_numberRead_L7 (E : Env1) (M : Mem) : Nat → Nat → Int32 → Int32 → (Option (Int32))
  | 0 => fun _ _ _ => none
  | n + 1 => b_X7_numberRead_L7 E M (f_X7_numberRead_L7 E M n)
theorem o_X7_numberRead_L7 {X : Ctx} {l0 : Launch} {E : Env1} (h : Cx X l0 E RX7 cX7_numberRead (some .int) 3 rm_X7_numberRead) (hE : WF E) {M : Mem} {r : Int32} (hR : RetI X E cX7_numberRead r M) : ∀ (n : Nat) (v0 : Nat) (v1 : Int32) (v2 : Int32), isK E v0 6 → f_X7_numberRead_L7 E M n v0 v1 v2 = some r → G X E (0, 0) 7 [some (.ref v0), some (.int v1), some (.int v2)] [] M := by
  intro n
  induction n with
  | zero =>
    intro _ _ _ a0 hf
    have h0 : (none : Option (Int32)) = some r := hf
    cases h0
  | succ n ih =>
    intro _ _ _ a0 hf
    exact ob_X7_numberRead_L7 h hE hR  ih a0 hf
def f_X7_numberRead (E : Env1) (M : Mem) (v0 : Nat) : Option (Int32) :=
  f_X7_numberRead_L7 E M FU v0 (0 : Int32) (mi M v0 2)
set_option maxRecDepth 100000 in
set_option maxHeartbeats 4000000 in
theorem ok_X7_numberRead {E : Env1} (hE : WF E) (l0 : Launch) {M : Mem} {v0 : Nat} {r : Int32} (h0 : isK E v0 6) (hf : f_X7_numberRead E M v0 = some r) : Met l0 yX7_numberRead (wsA yX7_numberRead cX7_numberRead 3 (some .int)) rm_X7_numberRead (CP E M [.ref v0]) (CQi E r M) 0 0 (eA E) := by
  unfold f_X7_numberRead at hf
  refine mtI l0 (by decide +kernel) (Nat.le_of_ble_eq_true rfl) (L0 := [some (.ref v0), none, none]) rfl (fun X h hR => ?_)
  refine G_iconst h dX7_numberRead_0 ki_0 rfl ?_
  refine G_istore_n h dX7_numberRead_1 (i := 1) rfl (by decide) (L' := [some (.ref v0), some (.int (0 : Int32)), none]) rfl rfl ?_
  refine G_aload_n h dX7_numberRead_2 (i := 0) rfl rfl rfl ?_
  refine gf_X7_19 h dX7_numberRead_3 h0 rfl ?_
  refine G_istore_n h dX7_numberRead_6 (i := 2) rfl (by decide) (L' := [some (.ref v0), some (.int (0 : Int32)), some (.int (mi M v0 2))]) rfl rfl ?_
  exact o_X7_numberRead_L7 h hE hR  FU _ _ _ h0 hf
def rm_X7_nextToken : Room := { frames := 6, cells := 0, slots := 0, locals := 128 }
def f_X7_nextToken (E : Env1) (M : Mem) (v0 : Nat) : Option (Mem) :=
  (f_X7_behindRun E M v0 (mi M v0 3) (32 : Int32) (32 : Int32)).bind fun x1 =>
  (f_X7_byteAt E (wi (wi (wi M v0 2 x1) v0 3 ((mi (wi M v0 2 x1) v0 2) + (1 : Int32))) v0 5 (0 : Int32)) v0 (mi (wi (wi (wi M v0 2 x1) v0 3 ((mi (wi M v0 2 x1) v0 2) + (1 : Int32))) v0 5 (0 : Int32)) v0 2)).bind fun x2 =>
  if x2 = (-1 : Int32) then (
    nm (wi (wi (wi (wi M v0 2 x1) v0 3 ((mi (wi M v0 2 x1) v0 2) + (1 : Int32))) v0 5 (0 : Int32)) v0 4 (0 : Int32)) fun M21 =>
    some (wi M21 v0 3 (mi M21 v0 2)))
  else (
    if x2 = (59 : Int32) then (
      nm (wi (wi (wi (wi M v0 2 x1) v0 3 ((mi (wi M v0 2 x1) v0 2) + (1 : Int32))) v0 5 (0 : Int32)) v0 4 (3 : Int32)) fun M20 =>
      some M20)
    else (
      if (f_X8_within E (wi (wi (wi M v0 2 x1) v0 3 ((mi (wi M v0 2 x1) v0 2) + (1 : Int32))) v0 5 (0 : Int32)) x2 (97 : Int32) (122 : Int32)) = 0 then (
        if (f_X8_within E (wi (wi (wi M v0 2 x1) v0 3 ((mi (wi M v0 2 x1) v0 2) + (1 : Int32))) v0 5 (0 : Int32)) x2 (48 : Int32) (57 : Int32)) = 0 then (
          nm (wi (wi (wi (wi M v0 2 x1) v0 3 ((mi (wi M v0 2 x1) v0 2) + (1 : Int32))) v0 5 (0 : Int32)) v0 4 (4 : Int32)) fun M9 =>
          some M9)
        else (
          (f_X7_behindRun E (wi (wi (wi M v0 2 x1) v0 3 ((mi (wi M v0 2 x1) v0 2) + (1 : Int32))) v0 5 (0 : Int32)) v0 (mi (wi (wi (wi M v0 2 x1) v0 3 ((mi (wi M v0 2 x1) v0 2) + (1 : Int32))) v0 5 (0 : Int32)) v0 2) (48 : Int32) (57 : Int32)).bind fun x10 =>
          nm (wi (wi (wi (wi M v0 2 x1) v0 3 ((mi (wi M v0 2 x1) v0 2) + (1 : Int32))) v0 5 (0 : Int32)) v0 3 x10) fun M11 =>
          nm (wi M11 v0 4 (if ((mi M11 v0 3) - (mi M11 v0 2)) ≤ (2 : Int32) then (2 : Int32) else (4 : Int32))) fun M13 =>
          (f_X7_numberRead E M13 v0).bind fun x14 =>
          some (wi M13 v0 5 x14)))
      else (
        (f_X7_behindRun E (wi (wi (wi M v0 2 x1) v0 3 ((mi (wi M v0 2 x1) v0 2) + (1 : Int32))) v0 5 (0 : Int32)) v0 (mi (wi (wi (wi M v0 2 x1) v0 3 ((mi (wi M v0 2 x1) v0 2) + (1 : Int32))) v0 5 (0 : Int32)) v0 2) (97 : Int32) (122 : Int32)).bind fun x15 =>
        nm (wi (wi (wi (wi M v0 2 x1) v0 3 ((mi (wi M v0 2 x1) v0 2) + (1 : Int32))) v0 5 (0 : Int32)) v0 3 x15) fun M16 =>
        (f_X7_wordRead E M16 v0).bind fun x17 =>
        nm (wi (wi M16 v0 5 x17) v0 4 (if (mi (wi M16 v0 5 x17) v0 5) = (-1 : Int32) then (4 : Int32) else (1 : Int32))) fun M19 =>
        some M19)))
set_option maxRecDepth 100000 in
set_option maxHeartbeats 4000000 in
theorem ok_X7_nextToken {E : Env1} (hE : WF E) (l0 : Launch) {M : Mem} {M' : Mem} {v0 : Nat} (h0 : isK E v0 6) (hf : f_X7_nextToken E M v0 = some (M')) : Met l0 yX7_nextToken (wsA yX7_nextToken cX7_nextToken 2 none) rm_X7_nextToken (CP E M [.ref v0]) (CQv E M') 0 0 (eA E) := by
  unfold f_X7_nextToken at hf
  refine mtV l0 (by decide +kernel) (Nat.le_of_ble_eq_true rfl) (L0 := [some (.ref v0), none]) rfl (fun X h hR => ?_)
  refine G_aload_n h dX7_nextToken_0 (i := 0) rfl rfl rfl ?_
  refine G_aload_n h dX7_nextToken_1 (i := 0) rfl rfl rfl ?_
  refine G_aload_n h dX7_nextToken_2 (i := 0) rfl rfl rfl ?_
  refine gf_X7_22 h dX7_nextToken_3 h0 rfl ?_
  refine G_bipush h dX7_nextToken_6 kb_32 rfl ?_
  refine G_bipush h dX7_nextToken_8 kb_32 rfl ?_
  obtain ⟨x1, hx1, hf⟩ := bd hf
  refine cl_X7_113 h (ok_X7_behindRun hE _ h0 hx1) dX7_nextToken_10 h0 (as := [.int (mi M v0 3), .int (32 : Int32), .int (32 : Int32)]) rfl rfl ⟨rfl, rfl, Nat.le_of_ble_eq_true rfl, Nat.le_of_ble_eq_true rfl⟩ rfl (Nat.le_of_ble_eq_true rfl) ?_
  refine pf_X7_19 h dX7_nextToken_13 h0 rfl ?_
  refine G_aload_n h dX7_nextToken_16 (i := 0) rfl rfl rfl ?_
  refine G_aload_n h dX7_nextToken_17 (i := 0) rfl rfl rfl ?_
  refine gf_X7_19 h dX7_nextToken_18 h0 rfl ?_
  refine G_iconst h dX7_nextToken_21 ki_1 rfl ?_
  refine G_iadd h dX7_nextToken_22 rfl ?_
  refine pf_X7_22 h dX7_nextToken_23 h0 rfl ?_
  refine G_aload_n h dX7_nextToken_26 (i := 0) rfl rfl rfl ?_
  refine G_iconst h dX7_nextToken_27 ki_0 rfl ?_
  refine pf_X7_28 h dX7_nextToken_28 h0 rfl ?_
  refine G_aload_n h dX7_nextToken_31 (i := 0) rfl rfl rfl ?_
  refine G_aload_n h dX7_nextToken_32 (i := 0) rfl rfl rfl ?_
  refine gf_X7_19 h dX7_nextToken_33 h0 rfl ?_
  obtain ⟨x2, hx2, hf⟩ := bd hf
  refine cl_X7_117 h (ok_X7_byteAt hE _ h0 hx2) dX7_nextToken_36 h0 (as := [.int (mi (wi (wi (wi M v0 2 x1) v0 3 ((mi (wi M v0 2 x1) v0 2) + (1 : Int32))) v0 5 (0 : Int32)) v0 2)]) rfl rfl ⟨rfl, rfl, Nat.le_of_ble_eq_true rfl, Nat.le_of_ble_eq_true rfl⟩ rfl (Nat.le_of_ble_eq_true rfl) ?_
  refine G_istore_n h dX7_nextToken_39 (i := 1) rfl (by decide) (L' := [some (.ref v0), some (.int x2)]) rfl rfl ?_
  refine G_iload_n h dX7_nextToken_40 (i := 1) rfl rfl rfl ?_
  refine G_iconst h dX7_nextToken_41 ki_m1 rfl ?_
  refine G_icmp_ne h dX7_nextToken_42 (tgt := 61) (by decide) rfl (fun c3 => ?_) (fun c3 => ?_)
  · have hf := it_f c3 hf
    refine G_iload_n h dX7_nextToken_61 (i := 1) rfl rfl rfl ?_
    refine G_bipush h dX7_nextToken_62 kb_59 rfl ?_
    refine G_icmp_ne h dX7_nextToken_64 (tgt := 75) (by decide) rfl (fun c4 => ?_) (fun c4 => ?_)
    · have hf := it_f c4 hf
      refine G_iload_n h dX7_nextToken_75 (i := 1) rfl rfl rfl ?_
      refine G_bipush h dX7_nextToken_76 kb_97 rfl ?_
      refine G_bipush h dX7_nextToken_78 kb_122 rfl ?_
      refine cl_X7_43 h (ok_X8_within hE _  (r := f_X8_within E (wi (wi (wi M v0 2 x1) v0 3 ((mi (wi M v0 2 x1) v0 2) + (1 : Int32))) v0 5 (0 : Int32)) x2 (97 : Int32) (122 : Int32)) rfl) dX7_nextToken_80 (as := [.int x2, .int (97 : Int32), .int (122 : Int32)]) rfl rfl ⟨rfl, rfl, Nat.le_of_ble_eq_true rfl, Nat.le_of_ble_eq_true rfl⟩ rfl (Nat.le_of_ble_eq_true rfl) (fun z5 => ?_)
      refine G_if_eq h dX7_nextToken_83 (tgt := 130) (by decide) rfl (fun c6 => ?_) (fun c6 => ?_)
      · have hf := it_t c6 hf
        refine G_iload_n h dX7_nextToken_130 (i := 1) rfl rfl rfl ?_
        refine G_bipush h dX7_nextToken_131 kb_48 rfl ?_
        refine G_bipush h dX7_nextToken_133 kb_57 rfl ?_
        refine cl_X7_43 h (ok_X8_within hE _  (r := f_X8_within E (wi (wi (wi M v0 2 x1) v0 3 ((mi (wi M v0 2 x1) v0 2) + (1 : Int32))) v0 5 (0 : Int32)) x2 (48 : Int32) (57 : Int32)) rfl) dX7_nextToken_135 (as := [.int x2, .int (48 : Int32), .int (57 : Int32)]) rfl rfl ⟨rfl, rfl, Nat.le_of_ble_eq_true rfl, Nat.le_of_ble_eq_true rfl⟩ rfl (Nat.le_of_ble_eq_true rfl) (fun z7 => ?_)
        refine G_if_eq h dX7_nextToken_138 (tgt := 190) (by decide) rfl (fun c8 => ?_) (fun c8 => ?_)
        · have hf := it_t c8 hf
          refine G_aload_n h dX7_nextToken_190 (i := 0) rfl rfl rfl ?_
          refine G_iconst h dX7_nextToken_191 ki_4 rfl ?_
          refine pf_X7_25 h dX7_nextToken_192 h0 rfl ?_
          refine G_nmM (fun M9 hM9 => ?_)
          have hf := nm_eq hM9 hf
          exact pwV hR dX7_nextToken_195 hf
        · have hf := it_f c8 hf
          refine G_aload_n h dX7_nextToken_141 (i := 0) rfl rfl rfl ?_
          refine G_aload_n h dX7_nextToken_142 (i := 0) rfl rfl rfl ?_
          refine G_aload_n h dX7_nextToken_143 (i := 0) rfl rfl rfl ?_
          refine gf_X7_19 h dX7_nextToken_144 h0 rfl ?_
          refine G_bipush h dX7_nextToken_147 kb_48 rfl ?_
          refine G_bipush h dX7_nextToken_149 kb_57 rfl ?_
          obtain ⟨x10, hx10, hf⟩ := bd hf
          refine cl_X7_113 h (ok_X7_behindRun hE _ h0 hx10) dX7_nextToken_151 h0 (as := [.int (mi (wi (wi (wi M v0 2 x1) v0 3 ((mi (wi M v0 2 x1) v0 2) + (1 : Int32))) v0 5 (0 : Int32)) v0 2), .int (48 : Int32), .int (57 : Int32)]) rfl rfl ⟨rfl, rfl, Nat.le_of_ble_eq_true rfl, Nat.le_of_ble_eq_true rfl⟩ rfl (Nat.le_of_ble_eq_true rfl) ?_
          refine pf_X7_22 h dX7_nextToken_154 h0 rfl ?_
          refine G_nmM (fun M11 hM11 => ?_)
          have hf := nm_eq hM11 hf
          refine G_aload_n h dX7_nextToken_157 (i := 0) rfl rfl rfl ?_
          refine G_aload_n h dX7_nextToken_158 (i := 0) rfl rfl rfl ?_
          refine gf_X7_22 h dX7_nextToken_159 h0 rfl ?_
          refine G_aload_n h dX7_nextToken_162 (i := 0) rfl rfl rfl ?_
          refine gf_X7_19 h dX7_nextToken_163 h0 rfl ?_
          refine G_isub h dX7_nextToken_166 rfl ?_
          refine G_iconst h dX7_nextToken_167 ki_2 rfl ?_
          have hJ : G X E (0, 0) 176 [some (.ref v0), some (.int x2)] [.int (if ((mi M11 v0 3) - (mi M11 v0 2)) ≤ (2 : Int32) then (2 : Int32) else (4 : Int32)), .ref v0] M11 := by
            refine pf_X7_25 h dX7_nextToken_176 h0 rfl ?_
            refine G_nmM (fun M13 hM13 => ?_)
            have hf := nm_eq hM13 hf
            refine G_aload_n h dX7_nextToken_179 (i := 0) rfl rfl rfl ?_
            refine G_aload_n h dX7_nextToken_180 (i := 0) rfl rfl rfl ?_
            obtain ⟨x14, hx14, hf⟩ := bd hf
            refine cl_X7_123 h (ok_X7_numberRead hE _ h0 hx14) dX7_nextToken_181 h0 (as := []) rfl rfl ⟨rfl, rfl, Nat.le_of_ble_eq_true rfl, Nat.le_of_ble_eq_true rfl⟩ rfl (Nat.le_of_ble_eq_true rfl) ?_
            refine pf_X7_28 h dX7_nextToken_184 h0 rfl ?_
            refine G_goto h dX7_nextToken_187 (tgt := 195) (by decide) ?_
            exact pwV hR dX7_nextToken_195 hf
          refine G_icmp_le h dX7_nextToken_168 (tgt := 175) (by decide) rfl (fun c12 => ?_) (fun c12 => ?_)
          · refine G_iconst h dX7_nextToken_175 ki_2 rfl ?_
            exact G_ifp c12 hJ
          · refine G_iconst h dX7_nextToken_171 ki_4 rfl ?_
            refine G_goto h dX7_nextToken_172 (tgt := 176) (by decide) ?_
            exact G_ifn c12 hJ
      · have hf := it_f c6 hf
        refine G_aload_n h dX7_nextToken_86 (i := 0) rfl rfl rfl ?_
        refine G_aload_n h dX7_nextToken_87 (i := 0) rfl rfl rfl ?_
        refine G_aload_n h dX7_nextToken_88 (i := 0) rfl rfl rfl ?_
        refine gf_X7_19 h dX7_nextToken_89 h0 rfl ?_
        refine G_bipush h dX7_nextToken_92 kb_97 rfl ?_
        refine G_bipush h dX7_nextToken_94 kb_122 rfl ?_
        obtain ⟨x15, hx15, hf⟩ := bd hf
        refine cl_X7_113 h (ok_X7_behindRun hE _ h0 hx15) dX7_nextToken_96 h0 (as := [.int (mi (wi (wi (wi M v0 2 x1) v0 3 ((mi (wi M v0 2 x1) v0 2) + (1 : Int32))) v0 5 (0 : Int32)) v0 2), .int (97 : Int32), .int (122 : Int32)]) rfl rfl ⟨rfl, rfl, Nat.le_of_ble_eq_true rfl, Nat.le_of_ble_eq_true rfl⟩ rfl (Nat.le_of_ble_eq_true rfl) ?_
        refine pf_X7_22 h dX7_nextToken_99 h0 rfl ?_
        refine G_nmM (fun M16 hM16 => ?_)
        have hf := nm_eq hM16 hf
        refine G_aload_n h dX7_nextToken_102 (i := 0) rfl rfl rfl ?_
        refine G_aload_n h dX7_nextToken_103 (i := 0) rfl rfl rfl ?_
        obtain ⟨x17, hx17, hf⟩ := bd hf
        refine cl_X7_120 h (ok_X7_wordRead hE _ h0 hx17) dX7_nextToken_104 h0 (as := []) rfl rfl ⟨rfl, rfl, Nat.le_of_ble_eq_true rfl, Nat.le_of_ble_eq_true rfl⟩ rfl (Nat.le_of_ble_eq_true rfl) ?_
        refine pf_X7_28 h dX7_nextToken_107 h0 rfl ?_
        refine G_aload_n h dX7_nextToken_110 (i := 0) rfl rfl rfl ?_
        refine G_aload_n h dX7_nextToken_111 (i := 0) rfl rfl rfl ?_
        refine gf_X7_28 h dX7_nextToken_112 h0 rfl ?_
        refine G_iconst h dX7_nextToken_115 ki_m1 rfl ?_
        have hJ : G X E (0, 0) 124 [some (.ref v0), some (.int x2)] [.int (if (mi (wi M16 v0 5 x17) v0 5) = (-1 : Int32) then (4 : Int32) else (1 : Int32)), .ref v0] (wi M16 v0 5 x17) := by
          refine pf_X7_25 h dX7_nextToken_124 h0 rfl ?_
          refine G_nmM (fun M19 hM19 => ?_)
          have hf := nm_eq hM19 hf
          refine G_goto h dX7_nextToken_127 (tgt := 195) (by decide) ?_
          exact pwV hR dX7_nextToken_195 hf
        refine G_icmp_ne h dX7_nextToken_116 (tgt := 123) (by decide) rfl (fun c18 => ?_) (fun c18 => ?_)
        · refine G_iconst h dX7_nextToken_123 ki_1 rfl ?_
          exact G_ifn c18 hJ
        · refine G_iconst h dX7_nextToken_119 ki_4 rfl ?_
          refine G_goto h dX7_nextToken_120 (tgt := 124) (by decide) ?_
          exact G_ifp c18 hJ
    · have hf := it_t c4 hf
      refine G_aload_n h dX7_nextToken_67 (i := 0) rfl rfl rfl ?_
      refine G_iconst h dX7_nextToken_68 ki_3 rfl ?_
      refine pf_X7_25 h dX7_nextToken_69 h0 rfl ?_
      refine G_nmM (fun M20 hM20 => ?_)
      have hf := nm_eq hM20 hf
      refine G_goto h dX7_nextToken_72 (tgt := 195) (by decide) ?_
      exact pwV hR dX7_nextToken_195 hf
  · have hf := it_t c3 hf
    refine G_aload_n h dX7_nextToken_45 (i := 0) rfl rfl rfl ?_
    refine G_iconst h dX7_nextToken_46 ki_0 rfl ?_
    refine pf_X7_25 h dX7_nextToken_47 h0 rfl ?_
    refine G_nmM (fun M21 hM21 => ?_)
    have hf := nm_eq hM21 hf
    refine G_aload_n h dX7_nextToken_50 (i := 0) rfl rfl rfl ?_
    refine G_aload_n h dX7_nextToken_51 (i := 0) rfl rfl rfl ?_
    refine gf_X7_19 h dX7_nextToken_52 h0 rfl ?_
    refine pf_X7_22 h dX7_nextToken_55 h0 rfl ?_
    refine G_goto h dX7_nextToken_58 (tgt := 195) (by decide) ?_
    exact pwV hR dX7_nextToken_195 hf
def rm_X7_numbersOf : Room := { frames := 0, cells := 0, slots := 0, locals := 0 }
def f_X7_numbersOf (E : Env1) (M : Mem) (v0 : Int32) : Int32 :=
  if v0 = 0 then (8 : Int32)
  else if v0 = 3 then (1 : Int32)
  else if v0 = 5 then (1 : Int32)
  else (2 : Int32)
set_option maxRecDepth 100000 in
set_option maxHeartbeats 4000000 in
theorem ok_X7_numbersOf {E : Env1} (hE : WF E) (l0 : Launch) {M : Mem} {v0 : Int32} {r : Int32}  (hf : f_X7_numbersOf E M v0 = r) : Met l0 yX7_numbersOf (wsA yX7_numbersOf cX7_numbersOf 1 (some .int)) rm_X7_numbersOf (CP E M [.int v0]) (CQi E r M) 0 0 (eA E) := by
  unfold f_X7_numbersOf at hf
  refine mtI l0 (by decide +kernel) (Nat.le_of_ble_eq_true rfl) (L0 := [some (.int v0)]) rfl (fun X h hR => ?_)
  refine G_iload_n h dX7_numbersOf_0 (i := 0) rfl rfl rfl ?_
  by_cases c1 : v0 = 0
  · have hf := it_t c1 hf
    refine G_lk h dX7_numbersOf_1 (by decide) (by rw [c1]) (tgt := 36) (by decide) ?_
    refine G_bipush h dX7_numbersOf_36 kb_8 rfl ?_
    exact toI hR dX7_numbersOf_38 hf
  have hf := it_f c1 hf
  by_cases c2 : v0 = 3
  · have hf := it_t c2 hf
    refine G_lk h dX7_numbersOf_1 (by decide) (by rw [c2]) (tgt := 39) (by decide) ?_
    refine G_iconst h dX7_numbersOf_39 ki_1 rfl ?_
    exact toI hR dX7_numbersOf_40 hf
  have hf := it_f c2 hf
  by_cases c3 : v0 = 5
  · have hf := it_t c3 hf
    refine G_lk h dX7_numbersOf_1 (by decide) (by rw [c3]) (tgt := 39) (by decide) ?_
    refine G_iconst h dX7_numbersOf_39 ki_1 rfl ?_
    exact toI hR dX7_numbersOf_40 hf
  have hf := it_f c3 hf
  have nc1 := ne_lit c1 (n := 0) (by decide)
  have nc2 := ne_lit c2 (n := 3) (by decide)
  have nc3 := ne_lit c3 (n := 5) (by decide)
  refine G_lk h dX7_numbersOf_1 (by decide) (off := 40) (by simp [Op.lookupswitch.offset, Ne.symm nc1, nc1, Ne.symm nc2, nc2, Ne.symm nc3, nc3]) (tgt := 41) (by decide) ?_
  refine G_iconst h dX7_numbersOf_41 ki_2 rfl ?_
  exact toI hR dX7_numbersOf_42 hf
def rm_X7_takesNumber : Room := { frames := 1, cells := 0, slots := 0, locals := 22 }
def f_X7_takesNumber (E : Env1) (M : Mem) (v0 : Nat) (v1 : Nat) : Option (Int32 × Mem) :=
  nm (if (mi M v0 4) = (2 : Int32) then if (f_X8_within E M (mi M v0 5) (f_X7_lowest E M v0) (f_X7_highest E M v0 (mi M v1 0))) = 0 then (0 : Int32) else (1 : Int32) else (0 : Int32)) fun x4 =>
  if x4 = 0 then (some ((0 : Int32), M))
  else (
    if (f_X8_within E M (mi M v0 7) (0 : Int32) (7 : Int32)) = 0 then (some ((0 : Int32), M))
    else (
      gd (mi M v0 7) 8 (nm (wi (wi M (rr E v0 8) (ix (mi M v0 7)) (mi M v0 5)) v0 7 ((mi (wi M (rr E v0 8) (ix (mi M v0 7)) (mi M v0 5)) v0 7) + (1 : Int32))) fun M9 =>
      some ((1 : Int32), M9))))
set_option maxRecDepth 100000 in
set_option maxHeartbeats 4000000 in
theorem ok_X7_takesNumber {E : Env1} (hE : WF E) (l0 : Launch) {M : Mem} {M' : Mem} {v0 : Nat} {v1 : Nat} {r : Int32} (h0 : isK E v0 6) (h1 : isK E v1 0) (hf : f_X7_takesNumber E M v0 v1 = some (r, M')) : Met l0 yX7_takesNumber (wsA yX7_takesNumber cX7_takesNumber 3 (some .boolean)) rm_X7_takesNumber (CP E M [.ref v0, .ref v1]) (CQz E r M') 0 0 (eA E) := by
  unfold f_X7_takesNumber at hf
  refine mtZ l0 (by decide +kernel) (Nat.le_of_ble_eq_true rfl) (L0 := [some (.ref v0), some (.ref v1), none]) rfl (fun X h hR => ?_)
  refine G_aload_n h dX7_takesNumber_0 (i := 0) rfl rfl rfl ?_
  refine gf_X7_25 h dX7_takesNumber_1 h0 rfl ?_
  refine G_iconst h dX7_takesNumber_4 ki_2 rfl ?_
  have hJ : G X E (0, 0) 35 [some (.ref v0), some (.ref v1), none] [.int (if (mi M v0 4) = (2 : Int32) then if (f_X8_within E M (mi M v0 5) (f_X7_lowest E M v0) (f_X7_highest E M v0 (mi M v1 0))) = 0 then (0 : Int32) else (1 : Int32) else (0 : Int32))] M := by
    refine G_nmi (fun x4 hx4 => ?_)
    have hf := nm_eq hx4 hf
    refine G_istore_n h dX7_takesNumber_35 (i := 2) rfl (by decide) (L' := [some (.ref v0), some (.ref v1), some (.int x4)]) rfl rfl ?_
    refine G_iload_n h dX7_takesNumber_36 (i := 2) rfl rfl rfl ?_
    refine G_if_eq h dX7_takesNumber_37 (tgt := 53) (by decide) rfl (fun c5 => ?_) (fun c5 => ?_)
    · have hf := it_t c5 hf
      refine G_iconst h dX7_takesNumber_53 ki_0 rfl ?_
      exact pwZ hR dX7_takesNumber_54 (Or.inl rfl) hf
    · have hf := it_f c5 hf
      refine G_aload_n h dX7_takesNumber_40 (i := 0) rfl rfl rfl ?_
      refine gf_X7_34 h dX7_takesNumber_41 h0 rfl ?_
      refine G_iconst h dX7_takesNumber_44 ki_0 rfl ?_
      refine G_bipush h dX7_takesNumber_45 kb_7 rfl ?_
      refine cl_X7_43 h (ok_X8_within hE _  (r := f_X8_within E M (mi M v0 7) (0 : Int32) (7 : Int32)) rfl) dX7_takesNumber_47 (as := [.int (mi M v0 7), .int (0 : Int32), .int (7 : Int32)]) rfl rfl ⟨rfl, rfl, Nat.le_of_ble_eq_true rfl, Nat.le_of_ble_eq_true rfl⟩ rfl (Nat.le_of_ble_eq_true rfl) (fun z6 => ?_)
      refine G_if_ne h dX7_takesNumber_50 (tgt := 55) (by decide) rfl (fun c7 => ?_) (fun c7 => ?_)
      · have hf := it_f c7 hf
        refine G_aload_n h dX7_takesNumber_55 (i := 0) rfl rfl rfl ?_
        refine gf_X7_37 h hE dX7_takesNumber_56 h0 rfl ?_
        refine G_aload_n h dX7_takesNumber_59 (i := 0) rfl rfl rfl ?_
        refine gf_X7_34 h dX7_takesNumber_60 h0 rfl ?_
        refine G_aload_n h dX7_takesNumber_63 (i := 0) rfl rfl rfl ?_
        refine gf_X7_28 h dX7_takesNumber_64 h0 rfl ?_
        obtain ⟨g8, hf⟩ := gd_some hf
        refine G_iast h dX7_takesNumber_67 ((w_6_8 hE h0).2) g8 (jx := (ix (mi M v0 7))) rfl rfl ?_
        refine G_aload_n h dX7_takesNumber_68 (i := 0) rfl rfl rfl ?_
        refine G_dup h dX7_takesNumber_69 rfl rfl ?_
        refine gf_X7_34 h dX7_takesNumber_70 h0 rfl ?_
        refine G_iconst h dX7_takesNumber_73 ki_1 rfl ?_
        refine G_iadd h dX7_takesNumber_74 rfl ?_
        refine pf_X7_34 h dX7_takesNumber_75 h0 rfl ?_
        refine G_nmM (fun M9 hM9 => ?_)
        have hf := nm_eq hM9 hf
        refine G_iconst h dX7_takesNumber_78 ki_1 rfl ?_
        exact pwZ hR dX7_takesNumber_79 (Or.inr rfl) hf
      · have hf := it_t c7 hf
        refine G_iconst h dX7_takesNumber_53 ki_0 rfl ?_
        exact pwZ hR dX7_takesNumber_54 (Or.inl rfl) hf
  refine G_icmp_ne h dX7_takesNumber_5 (tgt := 34) (by decide) rfl (fun c1 => ?_) (fun c1 => ?_)
  · refine G_iconst h dX7_takesNumber_34 ki_0 rfl ?_
    exact G_ifn c1 hJ
  · refine G_aload_n h dX7_takesNumber_8 (i := 0) rfl rfl rfl ?_
    refine gf_X7_28 h dX7_takesNumber_9 h0 rfl ?_
    refine G_aload_n h dX7_takesNumber_12 (i := 0) rfl rfl rfl ?_
    refine cl_X7_76 h (ok_X7_lowest hE _ h0 (r := f_X7_lowest E M v0) rfl) dX7_takesNumber_13 h0 (as := []) rfl rfl ⟨rfl, rfl, Nat.le_of_ble_eq_true rfl, Nat.le_of_ble_eq_true rfl⟩ rfl (Nat.le_of_ble_eq_true rfl) ?_
    refine G_aload_n h dX7_takesNumber_16 (i := 0) rfl rfl rfl ?_
    refine G_aload_n h dX7_takesNumber_17 (i := 1) rfl rfl rfl ?_
    refine gf_X7_73 h dX7_takesNumber_18 h1 rfl ?_
    refine cl_X7_80 h (ok_X7_highest hE _ h0 (r := f_X7_highest E M v0 (mi M v1 0)) rfl) dX7_takesNumber_21 h0 (as := [.int (mi M v1 0)]) rfl rfl ⟨rfl, rfl, Nat.le_of_ble_eq_true rfl, Nat.le_of_ble_eq_true rfl⟩ rfl (Nat.le_of_ble_eq_true rfl) ?_
    refine cl_X7_43 h (ok_X8_within hE _  (r := f_X8_within E M (mi M v0 5) (f_X7_lowest E M v0) (f_X7_highest E M v0 (mi M v1 0))) rfl) dX7_takesNumber_24 (as := [.int (mi M v0 5), .int (f_X7_lowest E M v0), .int (f_X7_highest E M v0 (mi M v1 0))]) rfl rfl ⟨rfl, rfl, Nat.le_of_ble_eq_true rfl, Nat.le_of_ble_eq_true rfl⟩ rfl (Nat.le_of_ble_eq_true rfl) (fun z2 => ?_)
    refine G_if_eq h dX7_takesNumber_27 (tgt := 34) (by decide) rfl (fun c3 => ?_) (fun c3 => ?_)
    · refine G_iconst h dX7_takesNumber_34 ki_0 rfl ?_
      exact G_ifp c3 (G_ifp c1 hJ)
    · refine G_iconst h dX7_takesNumber_30 ki_1 rfl ?_
      refine G_goto h dX7_takesNumber_31 (tgt := 35) (by decide) ?_
      exact G_ifn c3 (G_ifp c1 hJ)
def rm_X7_settleKinds : Room := { frames := 0, cells := 0, slots := 0, locals := 0 }
def b_X7_settleKinds_L2 (E : Env1) (k2 : Mem → Nat → Nat → Int32 → (Option (Mem))) (M : Mem) (v0 : Nat) (v1 : Nat) (v2 : Int32) : Option (Mem) :=
  if (8 : Int32) ≤ v2 then (some M)
  else (gd v2 8 (k2 (wi M (rr E v1 0) (ix v2) (mi M (rr E v0 8) (ix v2))) v0 v1 (v2 + 1)))
set_option maxRecDepth 100000 in
set_option maxHeartbeats 4000000 in
theorem ob_X7_settleKinds_L2 {X : Ctx} {l0 : Launch} {E : Env1} (h : Cx X l0 E RX7 cX7_settleKinds none 3 rm_X7_settleKinds) (hE : WF E) {M' : Mem} (hR : RetV X E cX7_settleKinds M') {k2 : Mem → Nat → Nat → Int32 → (Option (Mem))} (hk2 : ∀ (M : Mem) (v0 : Nat) (v1 : Nat) (v2 : Int32), isK E v0 6 → isK E v1 4 → k2 M v0 v1 v2 = some (M') → G X E (0, 0) 2 [some (.ref v0), some (.ref v1), some (.int v2)] [] M) {M : Mem} {v0 : Nat} {v1 : Nat} {v2 : Int32} (h_v0 : isK E v0 6) (h_v1 : isK E v1 4) (hf : b_X7_settleKinds_L2 E k2 M v0 v1 v2 = some (M')) : G X E (0, 0) 2 [some (.ref v0), some (.ref v1), some (.int v2)] [] M := by
  unfold b_X7_settleKinds_L2 at hf
  refine G_iload_n h dX7_settleKinds_2 (i := 2) rfl rfl rfl ?_
  refine G_bipush h dX7_settleKinds_3 kb_8 rfl ?_
  refine G_icmp_ge h dX7_settleKinds_5 (tgt := 26) (by decide) rfl (fun c1 => ?_) (fun c1 => ?_)
  · have hf := it_t c1 hf
    exact pwV hR dX7_settleKinds_26 hf
  · have hf := it_f c1 hf
    refine G_aload_n h dX7_settleKinds_8 (i := 1) rfl rfl rfl ?_
    refine gf_X7_110 h hE dX7_settleKinds_9 h_v1 rfl ?_
    refine G_iload_n h dX7_settleKinds_12 (i := 2) rfl rfl rfl ?_
    refine G_aload_n h dX7_settleKinds_13 (i := 0) rfl rfl rfl ?_
    refine gf_X7_37 h hE dX7_settleKinds_14 h_v0 rfl ?_
    refine G_iload_n h dX7_settleKinds_17 (i := 2) rfl rfl rfl ?_
    obtain ⟨g2, hf⟩ := gd_some hf
    refine G_iald h dX7_settleKinds_18 ((w_6_8 hE h_v0).2) g2 (jx := (ix v2)) rfl rfl ?_
    refine G_iast h dX7_settleKinds_19 ((w_4_0 hE h_v1).2) g2 (jx := (ix v2)) rfl rfl ?_
    refine G_iinc2 h dX7_settleKinds_20 rfl ki_1 (by decide) (L' := [some (.ref v0), some (.ref v1), some (.int (v2 + 1))]) rfl rfl ?_
    refine G_goto h dX7_settleKinds_23 (tgt := 2) (by decide) ?_
    exact hk2 _ _ _ _ h_v0 h_v1 hf
def f_X7_settleKinds_L2 (E : Env1) : Nat → Mem → Nat → Nat → Int32 → (Option (Mem))
  | 0 => fun _ _ _ _ => none
  | n + 1 => b_X7_settleKinds_L2 E (f_X7_settleKinds_L2 E n)
theorem o_X7_settleKinds_L2 {X : Ctx} {l0 : Launch} {E : Env1} (h : Cx X l0 E RX7 cX7_settleKinds none 3 rm_X7_settleKinds) (hE : WF E) {M' : Mem} (hR : RetV X E cX7_settleKinds M') : ∀ (n : Nat) (M : Mem) (v0 : Nat) (v1 : Nat) (v2 : Int32), isK E v0 6 → isK E v1 4 → f_X7_settleKinds_L2 E n M v0 v1 v2 = some (M') → G X E (0, 0) 2 [some (.ref v0), some (.ref v1), some (.int v2)] [] M := by
  intro n
  induction n with
  | zero =>
    intro _ _ _ _ a0 a1 hf
    have h0 : (none : Option (Mem)) = some (M') := hf
    cases h0
  | succ n ih =>
    intro _ _ _ _ a0 a1 hf
    exact ob_X7_settleKinds_L2 h hE hR  ih a0 a1 hf
def f_X7_settleKinds (E : Env1) (M : Mem) (v0 : Nat) (v1 : Nat) : Option (Mem) :=
  f_X7_settleKinds_L2 E FU M v0 v1 (0 : Int32)
set_option maxRecDepth 100000 in
set_option maxHeartbeats 4000000 in
theorem ok_X7_settleKinds {E : Env1} (hE : WF E) (l0 : Launch) {M : Mem} {M' : Mem} {v0 : Nat} {v1 : Nat} (h0 : isK E v0 6) (h1 : isK E v1 4) (hf : f_X7_settleKinds E M v0 v1 = some (M')) : Met l0 yX7_settleKinds (wsA yX7_settleKinds cX7_settleKinds 3 none) rm_X7_settleKinds (CP E M [.ref v0, .ref v1]) (CQv E M') 0 0 (eA E) := by
  unfold f_X7_settleKinds at hf
  refine mtV l0 (by decide +kernel) (Nat.le_of_ble_eq_true rfl) (L0 := [some (.ref v0), some (.ref v1), none]) rfl (fun X h hR => ?_)
  refine G_iconst h dX7_settleKinds_0 ki_0 rfl ?_
  refine G_istore_n h dX7_settleKinds_1 (i := 2) rfl (by decide) (L' := [some (.ref v0), some (.ref v1), some (.int (0 : Int32))]) rfl rfl ?_
  exact o_X7_settleKinds_L2 h hE hR  FU _ _ _ _ h0 h1 hf
def rm_X7_settle : Room := { frames := 3, cells := 0, slots := 0, locals := 68 }
def f_X7_settle (E : Env1) (M : Mem) (v0 : Nat) (v1 : Nat) : Option (Mem) :=
  if (mi M v0 6) = 0 then (
    (f_X7_settleKinds E M v0 (rr E v1 3)).bind fun x2 =>
    some x2)
  else if (mi M v0 6) = 1 then (
    (f_X0_welcome E M v1 (mi M (rr E v0 8) 0) (mi M (rr E v0 8) 1)).bind fun x4 =>
    some x4)
  else if (mi M v0 6) = 2 then (
    (f_X5_learn E M (rr E v1 3) (mi M (rr E v0 8) 0) (mi M (rr E v0 8) 1)).bind fun x6 =>
    some x6)
  else if (mi M v0 6) = 3 then (
    nm (wi M (rr E v1 3) 3 ((mi M (rr E v1 3) 3) ||| ((1 : Int32) <<< ((mi M (rr E v0 8) 0) &&& 31)))) fun M8 =>
    some M8)
  else if (mi M v0 6) = 4 then (
    (f_X5_stayAt E M (rr E v1 3) (mi M (rr E v0 8) 0) (mi M (rr E v0 8) 1)).bind fun x10 =>
    some x10)
  else (
    (f_X5_passMinutes E M (rr E v1 3) (mi M (rr E v0 8) 0)).bind fun x11 =>
    some x11)
set_option maxRecDepth 100000 in
set_option maxHeartbeats 4000000 in
theorem ok_X7_settle {E : Env1} (hE : WF E) (l0 : Launch) {M : Mem} {M' : Mem} {v0 : Nat} {v1 : Nat} (h0 : isK E v0 6) (h1 : isK E v1 0) (hf : f_X7_settle E M v0 v1 = some (M')) : Met l0 yX7_settle (wsA yX7_settle cX7_settle 4 none) rm_X7_settle (CP E M [.ref v0, .ref v1]) (CQv E M') 0 0 (eA E) := by
  unfold f_X7_settle at hf
  refine mtV l0 (by decide +kernel) (Nat.le_of_ble_eq_true rfl) (L0 := [some (.ref v0), some (.ref v1), none, none]) rfl (fun X h hR => ?_)
  refine G_aload_n h dX7_settle_0 (i := 0) rfl rfl rfl ?_
  refine gf_X7_37 h hE dX7_settle_1 h0 rfl ?_
  refine G_iconst h dX7_settle_4 ki_0 rfl ?_
  refine G_iald h dX7_settle_5 ((w_6_8 hE h0).2) (vi_lit (by decide)) (jx := 0) (by decide) rfl ?_
  refine G_istore_n h dX7_settle_6 (i := 2) rfl (by decide) (L' := [some (.ref v0), some (.ref v1), some (.int (mi M (rr E v0 8) 0)), none]) rfl rfl ?_
  refine G_aload_n h dX7_settle_7 (i := 0) rfl rfl rfl ?_
  refine gf_X7_37 h hE dX7_settle_8 h0 rfl ?_
  refine G_iconst h dX7_settle_11 ki_1 rfl ?_
  refine G_iald h dX7_settle_12 ((w_6_8 hE h0).2) (vi_lit (by decide)) (jx := 1) (by decide) rfl ?_
  refine G_istore_n h dX7_settle_13 (i := 3) rfl (by decide) (L' := [some (.ref v0), some (.ref v1), some (.int (mi M (rr E v0 8) 0)), some (.int (mi M (rr E v0 8) 1))]) rfl rfl ?_
  refine G_aload_n h dX7_settle_14 (i := 0) rfl rfl rfl ?_
  refine gf_X7_31 h dX7_settle_15 h0 rfl ?_
  by_cases c1 : (mi M v0 6) = 0
  · have hf := it_t c1 hf
    refine G_tsIn h dX7_settle_18 c1 (v := 0) (j := 0) (by decide) (by decide) rfl (tgt := 52) (by decide) ?_
    refine G_aload_n h dX7_settle_52 (i := 0) rfl rfl rfl ?_
    refine G_aload_n h dX7_settle_53 (i := 1) rfl rfl rfl ?_
    refine gf_X7_83 h hE dX7_settle_54 h1 rfl ?_
    obtain ⟨x2, hx2, hf⟩ := bd hf
    refine cl_X7_87 h (ok_X7_settleKinds hE _ h0 ((w_0_3 hE h1).2) hx2) dX7_settle_57 h0 (as := [.ref (rr E v1 3)]) rfl rfl ⟨rfl, rfl, Nat.le_of_ble_eq_true rfl, Nat.le_of_ble_eq_true rfl⟩ rfl (Nat.le_of_ble_eq_true rfl) ?_
    refine G_goto h dX7_settle_60 (tgt := 122) (by decide) ?_
    exact pwV hR dX7_settle_122 hf
  have hf := it_f c1 hf
  by_cases c3 : (mi M v0 6) = 1
  · have hf := it_t c3 hf
    refine G_tsIn h dX7_settle_18 c3 (v := 1) (j := 1) (by decide) (by decide) rfl (tgt := 63) (by decide) ?_
    refine G_aload_n h dX7_settle_63 (i := 1) rfl rfl rfl ?_
    refine G_iload_n h dX7_settle_64 (i := 2) rfl rfl rfl ?_
    refine G_iload_n h dX7_settle_65 (i := 3) rfl rfl rfl ?_
    obtain ⟨x4, hx4, hf⟩ := bd hf
    refine cl_X7_91 h (ok_X0_welcome hE _ h1 hx4) dX7_settle_66 h1 (as := [.int (mi M (rr E v0 8) 0), .int (mi M (rr E v0 8) 1)]) rfl rfl ⟨rfl, rfl, Nat.le_of_ble_eq_true rfl, Nat.le_of_ble_eq_true rfl⟩ rfl (Nat.le_of_ble_eq_true rfl) ?_
    refine G_goto h dX7_settle_69 (tgt := 122) (by decide) ?_
    exact pwV hR dX7_settle_122 hf
  have hf := it_f c3 hf
  by_cases c5 : (mi M v0 6) = 2
  · have hf := it_t c5 hf
    refine G_tsIn h dX7_settle_18 c5 (v := 2) (j := 2) (by decide) (by decide) rfl (tgt := 72) (by decide) ?_
    refine G_aload_n h dX7_settle_72 (i := 1) rfl rfl rfl ?_
    refine gf_X7_83 h hE dX7_settle_73 h1 rfl ?_
    refine G_iload_n h dX7_settle_76 (i := 2) rfl rfl rfl ?_
    refine G_iload_n h dX7_settle_77 (i := 3) rfl rfl rfl ?_
    obtain ⟨x6, hx6, hf⟩ := bd hf
    refine cl_X7_95 h (ok_X5_learn hE _ ((w_0_3 hE h1).2) hx6) dX7_settle_78 ((w_0_3 hE h1).2) (as := [.int (mi M (rr E v0 8) 0), .int (mi M (rr E v0 8) 1)]) rfl rfl ⟨rfl, rfl, Nat.le_of_ble_eq_true rfl, Nat.le_of_ble_eq_true rfl⟩ rfl (Nat.le_of_ble_eq_true rfl) ?_
    refine G_goto h dX7_settle_81 (tgt := 122) (by decide) ?_
    exact pwV hR dX7_settle_122 hf
  have hf := it_f c5 hf
  by_cases c7 : (mi M v0 6) = 3
  · have hf := it_t c7 hf
    refine G_tsIn h dX7_settle_18 c7 (v := 3) (j := 3) (by decide) (by decide) rfl (tgt := 84) (by decide) ?_
    refine G_aload_n h dX7_settle_84 (i := 1) rfl rfl rfl ?_
    refine gf_X7_83 h hE dX7_settle_85 h1 rfl ?_
    refine G_dup h dX7_settle_88 rfl rfl ?_
    refine gf_X7_100 h dX7_settle_89 ((w_0_3 hE h1).2) rfl ?_
    refine G_iconst h dX7_settle_92 ki_1 rfl ?_
    refine G_iload_n h dX7_settle_93 (i := 2) rfl rfl rfl ?_
    refine G_ishl h dX7_settle_94 rfl ?_
    refine G_ior h dX7_settle_95 rfl ?_
    refine pf_X7_100 h dX7_settle_96 ((w_0_3 hE h1).2) rfl ?_
    refine G_nmM (fun M8 hM8 => ?_)
    have hf := nm_eq hM8 hf
    refine G_goto h dX7_settle_99 (tgt := 122) (by decide) ?_
    exact pwV hR dX7_settle_122 hf
  have hf := it_f c7 hf
  by_cases c9 : (mi M v0 6) = 4
  · have hf := it_t c9 hf
    refine G_tsIn h dX7_settle_18 c9 (v := 4) (j := 4) (by decide) (by decide) rfl (tgt := 102) (by decide) ?_
    refine G_aload_n h dX7_settle_102 (i := 1) rfl rfl rfl ?_
    refine gf_X7_83 h hE dX7_settle_103 h1 rfl ?_
    refine G_iload_n h dX7_settle_106 (i := 2) rfl rfl rfl ?_
    refine G_iload_n h dX7_settle_107 (i := 3) rfl rfl rfl ?_
    obtain ⟨x10, hx10, hf⟩ := bd hf
    refine cl_X7_103 h (ok_X5_stayAt hE _ ((w_0_3 hE h1).2) hx10) dX7_settle_108 ((w_0_3 hE h1).2) (as := [.int (mi M (rr E v0 8) 0), .int (mi M (rr E v0 8) 1)]) rfl rfl ⟨rfl, rfl, Nat.le_of_ble_eq_true rfl, Nat.le_of_ble_eq_true rfl⟩ rfl (Nat.le_of_ble_eq_true rfl) ?_
    refine G_goto h dX7_settle_111 (tgt := 122) (by decide) ?_
    exact pwV hR dX7_settle_122 hf
  have hf := it_f c9 hf
  have nc1 := ne_lit c1 (n := 0) (by decide)
  have nc3 := ne_lit c3 (n := 1) (by decide)
  have nc5 := ne_lit c5 (n := 2) (by decide)
  have nc7 := ne_lit c7 (n := 3) (by decide)
  have nc9 := ne_lit c9 (n := 4) (by decide)
  refine G_tsOut h dX7_settle_18 (by omega) (tgt := 114) (by decide) ?_
  refine G_aload_n h dX7_settle_114 (i := 1) rfl rfl rfl ?_
  refine gf_X7_83 h hE dX7_settle_115 h1 rfl ?_
  refine G_iload_n h dX7_settle_118 (i := 2) rfl rfl rfl ?_
  obtain ⟨x11, hx11, hf⟩ := bd hf
  refine cl_X7_106 h (ok_X5_passMinutes hE _ ((w_0_3 hE h1).2) hx11) dX7_settle_119 ((w_0_3 hE h1).2) (as := [.int (mi M (rr E v0 8) 0)]) rfl rfl ⟨rfl, rfl, Nat.le_of_ble_eq_true rfl, Nat.le_of_ble_eq_true rfl⟩ rfl (Nat.le_of_ble_eq_true rfl) ?_
  exact pwV hR dX7_settle_122 hf
def rm_X7_takes : Room := { frames := 4, cells := 0, slots := 0, locals := 91 }
def f_X7_takes (E : Env1) (M : Mem) (v0 : Nat) (v1 : Nat) : Option (Int32 × Mem) :=
  if (mi M v0 6) = (-1 : Int32) then (
    nm (f_X7_begins E M v0 v1) fun x8 =>
    some (x8.1, x8.2))
  else (
    if (f_X7_numbersOf E M (mi M v0 6)) ≤ (mi M v0 7) then (
      if (mi M v0 4) = (3 : Int32) then (
        (f_X7_settle E M v0 v1).bind fun x4 =>
        some ((1 : Int32), wi (wi x4 v0 6 (-1 : Int32)) v0 9 ((mi (wi x4 v0 6 (-1 : Int32)) v0 9) + (1 : Int32))))
      else (some ((0 : Int32), M)))
    else (
      (f_X7_takesNumber E M v0 v1).bind fun x6 =>
      some (x6.1, x6.2)))
set_option maxRecDepth 100000 in
set_option maxHeartbeats 4000000 in
theorem ok_X7_takes {E : Env1} (hE : WF E) (l0 : Launch) {M : Mem} {M' : Mem} {v0 : Nat} {v1 : Nat} {r : Int32} (h0 : isK E v0 6) (h1 : isK E v1 0) (hf : f_X7_takes E M v0 v1 = some (r, M')) : Met l0 yX7_takes (wsA yX7_takes cX7_takes 2 (some .boolean)) rm_X7_takes (CP E M [.ref v0, .ref v1]) (CQz E r M') 0 0 (eA E) := by
  unfold f_X7_takes at hf
  refine mtZ l0 (by decide +kernel) (Nat.le_of_ble_eq_true rfl) (L0 := [some (.ref v0), some (.ref v1)]) rfl (fun X h hR => ?_)
  refine G_aload_n h dX7_takes_0 (i := 0) rfl rfl rfl ?_
  refine gf_X7_31 h dX7_takes_1 h0 rfl ?_
  refine G_iconst h dX7_takes_4 ki_m1 rfl ?_
  refine G_icmp_ne h dX7_takes_5 (tgt := 14) (by decide) rfl (fun c1 => ?_) (fun c1 => ?_)
  · have hf := it_f c1 hf
    refine G_aload_n h dX7_takes_14 (i := 0) rfl rfl rfl ?_
    refine gf_X7_34 h dX7_takes_15 h0 rfl ?_
    refine G_aload_n h dX7_takes_18 (i := 0) rfl rfl rfl ?_
    refine gf_X7_31 h dX7_takes_19 h0 rfl ?_
    refine cl_X7_62 h (ok_X7_numbersOf hE _  (r := f_X7_numbersOf E M (mi M v0 6)) rfl) dX7_takes_22 (as := [.int (mi M v0 6)]) rfl rfl ⟨rfl, rfl, Nat.le_of_ble_eq_true rfl, Nat.le_of_ble_eq_true rfl⟩ rfl (Nat.le_of_ble_eq_true rfl) ?_
    refine G_icmp_ge h dX7_takes_25 (tgt := 34) (by decide) rfl (fun c2 => ?_) (fun c2 => ?_)
    · have hf := it_t c2 hf
      refine G_aload_n h dX7_takes_34 (i := 0) rfl rfl rfl ?_
      refine gf_X7_25 h dX7_takes_35 h0 rfl ?_
      refine G_iconst h dX7_takes_38 ki_3 rfl ?_
      refine G_icmp_eq h dX7_takes_39 (tgt := 44) (by decide) rfl (fun c3 => ?_) (fun c3 => ?_)
      · have hf := it_t c3 hf
        refine G_aload_n h dX7_takes_44 (i := 0) rfl rfl rfl ?_
        refine G_aload_n h dX7_takes_45 (i := 1) rfl rfl rfl ?_
        obtain ⟨x4, hx4, hf⟩ := bd hf
        refine cl_X7_69 h (ok_X7_settle hE _ h0 h1 hx4) dX7_takes_46 h0 (as := [.ref v1]) rfl rfl ⟨rfl, rfl, Nat.le_of_ble_eq_true rfl, Nat.le_of_ble_eq_true rfl⟩ rfl (Nat.le_of_ble_eq_true rfl) ?_
        refine G_aload_n h dX7_takes_49 (i := 0) rfl rfl rfl ?_
        refine G_iconst h dX7_takes_50 ki_m1 rfl ?_
        refine pf_X7_31 h dX7_takes_51 h0 rfl ?_
        refine G_aload_n h dX7_takes_54 (i := 0) rfl rfl rfl ?_
        refine G_dup h dX7_takes_55 rfl rfl ?_
        refine gf_X7_40 h dX7_takes_56 h0 rfl ?_
        refine G_iconst h dX7_takes_59 ki_1 rfl ?_
        refine G_iadd h dX7_takes_60 rfl ?_
        refine pf_X7_40 h dX7_takes_61 h0 rfl ?_
        refine G_iconst h dX7_takes_64 ki_1 rfl ?_
        exact pwZ hR dX7_takes_65 (Or.inr rfl) hf
      · have hf := it_f c3 hf
        refine G_iconst h dX7_takes_42 ki_0 rfl ?_
        exact pwZ hR dX7_takes_43 (Or.inl rfl) hf
    · have hf := it_f c2 hf
      refine G_aload_n h dX7_takes_28 (i := 0) rfl rfl rfl ?_
      refine G_aload_n h dX7_takes_29 (i := 1) rfl rfl rfl ?_
      obtain ⟨x6, hx6, hf⟩ := bd hf
      refine cl_X7_66 h (ok_X7_takesNumber hE _ h0 h1 hx6) dX7_takes_30 h0 (as := [.ref v1]) rfl rfl ⟨rfl, rfl, Nat.le_of_ble_eq_true rfl, Nat.le_of_ble_eq_true rfl⟩ rfl (Nat.le_of_ble_eq_true rfl) (fun z5 => ?_)
      exact pwZ hR dX7_takes_33 z5 hf
  · have hf := it_t c1 hf
    refine G_aload_n h dX7_takes_8 (i := 0) rfl rfl rfl ?_
    refine G_aload_n h dX7_takes_9 (i := 1) rfl rfl rfl ?_
    obtain ⟨x8, hx8⟩ : ∃ x, x = f_X7_begins E M v0 v1 := ⟨_, rfl⟩
    have hf := nm_eq hx8 hf
    refine cl_X7_59 h (ok_X7_begins hE _ h0 h1 hx8.symm) dX7_takes_10 h0 (as := [.ref v1]) rfl rfl ⟨rfl, rfl, Nat.le_of_ble_eq_true rfl, Nat.le_of_ble_eq_true rfl⟩ rfl (Nat.le_of_ble_eq_true rfl) (fun z7 => ?_)
    exact pwZ hR dX7_takes_13 z7 hf
def rm_X7_readInto : Room := { frames := 7, cells := 0, slots := 0, locals := 149 }
def f_X7_readInto_L59 (E : Env1) (k21 : Mem → Nat → Nat → Int32 → (Option (Int32 × Mem))) (M : Mem) (v0 : Nat) (v1 : Nat) (v2 : Int32) : Option (Int32 × Mem) :=
  (f_X7_takes E M v0 v1).bind fun x2 =>
  if x2.1 = 0 then (some ((-10 : Int32) - (mi x2.2 v0 2), x2.2))
  else (k21 x2.2 v0 v1 (v2 + 1))
set_option maxRecDepth 100000 in
set_option maxHeartbeats 4000000 in
theorem o_X7_readInto_L59 {X : Ctx} {l0 : Launch} {E : Env1} (h : Cx X l0 E RX7 cX7_readInto (some .int) 3 rm_X7_readInto) (hE : WF E) {M' : Mem} {r : Int32} (hR : RetI X E cX7_readInto r M') {k21 : Mem → Nat → Nat → Int32 → (Option (Int32 × Mem))} (hk21 : ∀ (M : Mem) (v0 : Nat) (v1 : Nat) (v2 : Int32), isK E v0 6 → isK E v1 0 → k21 M v0 v1 v2 = some (r, M') → G X E (0, 0) 21 [some (.ref v0), some (.ref v1), some (.int v2)] [] M) {M : Mem} {v0 : Nat} {v1 : Nat} {v2 : Int32} (h_v0 : isK E v0 6) (h_v1 : isK E v1 0) (hf : f_X7_readInto_L59 E k21 M v0 v1 v2 = some (r, M')) : G X E (0, 0) 59 [some (.ref v0), some (.ref v1), some (.int v2)] [] M := by
  unfold f_X7_readInto_L59 at hf
  refine G_aload_n h dX7_readInto_59 (i := 0) rfl rfl rfl ?_
  refine G_aload_n h dX7_readInto_60 (i := 1) rfl rfl rfl ?_
  obtain ⟨x2, hx2, hf⟩ := bd hf
  refine cl_X7_55 h (ok_X7_takes hE _ h_v0 h_v1 hx2) dX7_readInto_61 h_v0 (as := [.ref v1]) rfl rfl ⟨rfl, rfl, Nat.le_of_ble_eq_true rfl, Nat.le_of_ble_eq_true rfl⟩ rfl (Nat.le_of_ble_eq_true rfl) (fun z1 => ?_)
  refine G_if_ne h dX7_readInto_64 (tgt := 75) (by decide) rfl (fun c3 => ?_) (fun c3 => ?_)
  · have hf := it_f c3 hf
    refine G_iinc2 h dX7_readInto_75 rfl ki_1 (by decide) (L' := [some (.ref v0), some (.ref v1), some (.int (v2 + 1))]) rfl rfl ?_
    refine G_goto h dX7_readInto_78 (tgt := 21) (by decide) ?_
    exact hk21 _ _ _ _ h_v0 h_v1 hf
  · have hf := it_t c3 hf
    refine G_bipush h dX7_readInto_67 kb_m10 rfl ?_
    refine G_aload_n h dX7_readInto_69 (i := 0) rfl rfl rfl ?_
    refine gf_X7_19 h dX7_readInto_70 h_v0 rfl ?_
    refine G_isub h dX7_readInto_73 rfl ?_
    exact pwI hR dX7_readInto_74 hf
def b_X7_readInto_L21 (E : Env1) (k21 : Mem → Nat → Nat → Int32 → (Option (Int32 × Mem))) (M : Mem) (v0 : Nat) (v1 : Nat) (v2 : Int32) : Option (Int32 × Mem) :=
  if (150 : Int32) < v2 then (some ((-10 : Int32) - (mi M v0 2), M))
  else (
    (f_X7_nextToken E M v0).bind fun x2 =>
    if (mi x2 v0 4) = 0 then (
      if (mi x2 v0 6) = (-1 : Int32) then (
        if (mi x2 v0 9) ≤ 0 then (f_X7_readInto_L59 E k21 x2 v0 v1 v2)
        else (some (mi x2 v0 9, x2)))
      else (f_X7_readInto_L59 E k21 x2 v0 v1 v2))
    else (f_X7_readInto_L59 E k21 x2 v0 v1 v2))
set_option maxRecDepth 100000 in
set_option maxHeartbeats 4000000 in
theorem ob_X7_readInto_L21 {X : Ctx} {l0 : Launch} {E : Env1} (h : Cx X l0 E RX7 cX7_readInto (some .int) 3 rm_X7_readInto) (hE : WF E) {M' : Mem} {r : Int32} (hR : RetI X E cX7_readInto r M') {k21 : Mem → Nat → Nat → Int32 → (Option (Int32 × Mem))} (hk21 : ∀ (M : Mem) (v0 : Nat) (v1 : Nat) (v2 : Int32), isK E v0 6 → isK E v1 0 → k21 M v0 v1 v2 = some (r, M') → G X E (0, 0) 21 [some (.ref v0), some (.ref v1), some (.int v2)] [] M) {M : Mem} {v0 : Nat} {v1 : Nat} {v2 : Int32} (h_v0 : isK E v0 6) (h_v1 : isK E v1 0) (hf : b_X7_readInto_L21 E k21 M v0 v1 v2 = some (r, M')) : G X E (0, 0) 21 [some (.ref v0), some (.ref v1), some (.int v2)] [] M := by
  unfold b_X7_readInto_L21 at hf
  refine G_iload_n h dX7_readInto_21 (i := 2) rfl rfl rfl ?_
  refine G_sipush h dX7_readInto_22 ks_150 rfl ?_
  refine G_icmp_gt h dX7_readInto_25 (tgt := 81) (by decide) rfl (fun c1 => ?_) (fun c1 => ?_)
  · have hf := it_t c1 hf
    refine G_bipush h dX7_readInto_81 kb_m10 rfl ?_
    refine G_aload_n h dX7_readInto_83 (i := 0) rfl rfl rfl ?_
    refine gf_X7_19 h dX7_readInto_84 h_v0 rfl ?_
    refine G_isub h dX7_readInto_87 rfl ?_
    exact pwI hR dX7_readInto_88 hf
  · have hf := it_f c1 hf
    refine G_aload_n h dX7_readInto_28 (i := 0) rfl rfl rfl ?_
    obtain ⟨x2, hx2, hf⟩ := bd hf
    refine cl_X7_52 h (ok_X7_nextToken hE _ h_v0 hx2) dX7_readInto_29 h_v0 (as := []) rfl rfl ⟨rfl, rfl, Nat.le_of_ble_eq_true rfl, Nat.le_of_ble_eq_true rfl⟩ rfl (Nat.le_of_ble_eq_true rfl) ?_
    refine G_aload_n h dX7_readInto_32 (i := 0) rfl rfl rfl ?_
    refine gf_X7_25 h dX7_readInto_33 h_v0 rfl ?_
    refine G_if_ne h dX7_readInto_36 (tgt := 59) (by decide) rfl (fun c3 => ?_) (fun c3 => ?_)
    · have hf := it_f c3 hf
      exact o_X7_readInto_L59 h hE hR hk21 h_v0 h_v1 hf
    · have hf := it_t c3 hf
      refine G_aload_n h dX7_readInto_39 (i := 0) rfl rfl rfl ?_
      refine gf_X7_31 h dX7_readInto_40 h_v0 rfl ?_
      refine G_iconst h dX7_readInto_43 ki_m1 rfl ?_
      refine G_icmp_ne h dX7_readInto_44 (tgt := 59) (by decide) rfl (fun c4 => ?_) (fun c4 => ?_)
      · have hf := it_f c4 hf
        exact o_X7_readInto_L59 h hE hR hk21 h_v0 h_v1 hf
      · have hf := it_t c4 hf
        refine G_aload_n h dX7_readInto_47 (i := 0) rfl rfl rfl ?_
        refine gf_X7_40 h dX7_readInto_48 h_v0 rfl ?_
        refine G_if_le h dX7_readInto_51 (tgt := 59) (by decide) rfl (fun c5 => ?_) (fun c5 => ?_)
        · have hf := it_t c5 hf
          exact o_X7_readInto_L59 h hE hR hk21 h_v0 h_v1 hf
        · have hf := it_f c5 hf
          refine G_aload_n h dX7_readInto_54 (i := 0) rfl rfl rfl ?_
          refine gf_X7_40 h dX7_readInto_55 h_v0 rfl ?_
          exact pwI hR dX7_readInto_58 hf
def f_X7_readInto_L21 (E : Env1) : Nat → Mem → Nat → Nat → Int32 → (Option (Int32 × Mem))
  | 0 => fun _ _ _ _ => none
  | n + 1 => b_X7_readInto_L21 E (f_X7_readInto_L21 E n)
theorem o_X7_readInto_L21 {X : Ctx} {l0 : Launch} {E : Env1} (h : Cx X l0 E RX7 cX7_readInto (some .int) 3 rm_X7_readInto) (hE : WF E) {M' : Mem} {r : Int32} (hR : RetI X E cX7_readInto r M') : ∀ (n : Nat) (M : Mem) (v0 : Nat) (v1 : Nat) (v2 : Int32), isK E v0 6 → isK E v1 0 → f_X7_readInto_L21 E n M v0 v1 v2 = some (r, M') → G X E (0, 0) 21 [some (.ref v0), some (.ref v1), some (.int v2)] [] M := by
  intro n
  induction n with
  | zero =>
    intro _ _ _ _ a0 a1 hf
    have h0 : (none : Option (Int32 × Mem)) = some (r, M') := hf
    cases h0
  | succ n ih =>
    intro _ _ _ _ a0 a1 hf
    exact ob_X7_readInto_L21 h hE hR  ih a0 a1 hf
def f_X7_readInto (E : Env1) (M : Mem) (v0 : Nat) (v1 : Nat) : Option (Int32 × Mem) :=
  (f_X0_empty E M v1).bind fun x1 =>
  f_X7_readInto_L21 E FU (wi (wi (wi x1 v0 3 (0 : Int32)) v0 6 (-1 : Int32)) v0 9 (0 : Int32)) v0 v1 (0 : Int32)
set_option maxRecDepth 100000 in
set_option maxHeartbeats 4000000 in
theorem ok_X7_readInto {E : Env1} (hE : WF E) (l0 : Launch) {M : Mem} {M' : Mem} {v0 : Nat} {v1 : Nat} {r : Int32} (h0 : isK E v0 6) (h1 : isK E v1 0) (hf : f_X7_readInto E M v0 v1 = some (r, M')) : Met l0 yX7_readInto (wsA yX7_readInto cX7_readInto 3 (some .int)) rm_X7_readInto (CP E M [.ref v0, .ref v1]) (CQi E r M') 0 0 (eA E) := by
  unfold f_X7_readInto at hf
  refine mtI l0 (by decide +kernel) (Nat.le_of_ble_eq_true rfl) (L0 := [some (.ref v0), some (.ref v1), none]) rfl (fun X h hR => ?_)
  refine G_aload_n h dX7_readInto_0 (i := 1) rfl rfl rfl ?_
  obtain ⟨x1, hx1, hf⟩ := bd hf
  refine cl_X7_47 h (ok_X0_empty hE _ h1 hx1) dX7_readInto_1 h1 (as := []) rfl rfl ⟨rfl, rfl, Nat.le_of_ble_eq_true rfl, Nat.le_of_ble_eq_true rfl⟩ rfl (Nat.le_of_ble_eq_true rfl) ?_
  refine G_aload_n h dX7_readInto_4 (i := 0) rfl rfl rfl ?_
  refine G_iconst h dX7_readInto_5 ki_0 rfl ?_
  refine pf_X7_22 h dX7_readInto_6 h0 rfl ?_
  refine G_aload_n h dX7_readInto_9 (i := 0) rfl rfl rfl ?_
  refine G_iconst h dX7_readInto_10 ki_m1 rfl ?_
  refine pf_X7_31 h dX7_readInto_11 h0 rfl ?_
  refine G_aload_n h dX7_readInto_14 (i := 0) rfl rfl rfl ?_
  refine G_iconst h dX7_readInto_15 ki_0 rfl ?_
  refine pf_X7_40 h dX7_readInto_16 h0 rfl ?_
  refine G_iconst h dX7_readInto_19 ki_0 rfl ?_
  refine G_istore_n h dX7_readInto_20 (i := 2) rfl (by decide) (L' := [some (.ref v0), some (.ref v1), some (.int (0 : Int32))]) rfl rfl ?_
  exact o_X7_readInto_L21 h hE hR  FU _ _ _ _ h0 h1 hf
end
