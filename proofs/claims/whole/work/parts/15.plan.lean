section
def rm_X3_lastMinute : Room := { frames := 1, cells := 0, slots := 0, locals := 21 }
def b_X3_lastMinute_L9 (E : Env1) (M : Mem) (k9 : Nat → Int32 → Int32 → (Option (Int32))) (v0 : Nat) (v1 : Int32) (v3 : Int32) : Option (Int32) :=
  if v3 < 0 then (some (-1 : Int32))
  else (
    gd v3 40 (if (((mi M (rr E v0 0) (ix v3)) >>> (v1 &&& 31)) &&& (1 : Int32)) = (1 : Int32) then (some v3)
    else (k9 v0 v1 (v3 + (-1)))))
set_option maxRecDepth 100000 in
set_option maxHeartbeats 4000000 in
theorem ob_X3_lastMinute_L9 {X : Ctx} {l0 : Launch} {E : Env1} (h : Cx X l0 E RX3 cX3_lastMinute (some .int) 4 rm_X3_lastMinute) (hE : WF E) {M : Mem} {r : Int32} (hR : RetI X E cX3_lastMinute r M) {k9 : Nat → Int32 → Int32 → (Option (Int32))} (hk9 : ∀ (v0 : Nat) (v1 : Int32) (v3 : Int32), isK E v0 2 → k9 v0 v1 v3 = some r → G X E (0, 0) 9 [some (.ref v0), some (.int v1), none, some (.int v3)] [] M) {v0 : Nat} {v1 : Int32} {v3 : Int32} (h_v0 : isK E v0 2) (hf : b_X3_lastMinute_L9 E M k9 v0 v1 v3 = some r) : G X E (0, 0) 9 [some (.ref v0), some (.int v1), none, some (.int v3)] [] M := by
  unfold b_X3_lastMinute_L9 at hf
  refine G_iload_n h dX3_lastMinute_9 (i := 3) rfl rfl rfl ?_
  refine G_if_lt h dX3_lastMinute_10 (tgt := 35) (by decide) rfl (fun c1 => ?_) (fun c1 => ?_)
  · have hf := it_t c1 hf
    refine G_iconst h dX3_lastMinute_35 ki_m1 rfl ?_
    exact roI hR dX3_lastMinute_36 hf
  · have hf := it_f c1 hf
    refine G_aload_n h dX3_lastMinute_13 (i := 0) rfl rfl rfl ?_
    refine gf_X3_11 h hE dX3_lastMinute_14 h_v0 rfl ?_
    refine G_iload_n h dX3_lastMinute_17 (i := 3) rfl rfl rfl ?_
    obtain ⟨g2, hf⟩ := gd_some hf
    refine G_iald h dX3_lastMinute_18 ((w_2_0 hE h_v0).2) g2 (jx := (ix v3)) rfl rfl ?_
    refine G_iload_n h dX3_lastMinute_19 (i := 1) rfl rfl rfl ?_
    refine G_ishr h dX3_lastMinute_20 rfl ?_
    refine G_iconst h dX3_lastMinute_21 ki_1 rfl ?_
    refine G_iand h dX3_lastMinute_22 rfl ?_
    refine G_iconst h dX3_lastMinute_23 ki_1 rfl ?_
    refine G_icmp_ne h dX3_lastMinute_24 (tgt := 29) (by decide) rfl (fun c3 => ?_) (fun c3 => ?_)
    · have hf := it_f c3 hf
      refine G_iinc2 h dX3_lastMinute_29 rfl ki_m1 (by decide) (L' := [some (.ref v0), some (.int v1), none, some (.int (v3 + (-1)))]) rfl rfl ?_
      refine G_goto h dX3_lastMinute_32 (tgt := 9) (by decide) ?_
      exact hk9 _ _ _ h_v0 hf
    · have hf := it_t c3 hf
      refine G_iload_n h dX3_lastMinute_27 (i := 3) rfl rfl rfl ?_
      exact roI hR dX3_lastMinute_28 hf
def f_X3_lastMinute_L9 (E : Env1) (M : Mem) : Nat → Nat → Int32 → Int32 → (Option (Int32))
  | 0 => fun _ _ _ => none
  | n + 1 => b_X3_lastMinute_L9 E M (f_X3_lastMinute_L9 E M n)
theorem o_X3_lastMinute_L9 {X : Ctx} {l0 : Launch} {E : Env1} (h : Cx X l0 E RX3 cX3_lastMinute (some .int) 4 rm_X3_lastMinute) (hE : WF E) {M : Mem} {r : Int32} (hR : RetI X E cX3_lastMinute r M) : ∀ (n : Nat) (v0 : Nat) (v1 : Int32) (v3 : Int32), isK E v0 2 → f_X3_lastMinute_L9 E M n v0 v1 v3 = some r → G X E (0, 0) 9 [some (.ref v0), some (.int v1), none, some (.int v3)] [] M := by
  intro n
  induction n with
  | zero =>
    intro _ _ _ a0 hf
    have h0 : (none : Option (Int32)) = some r := hf
    cases h0
  | succ n ih =>
    intro _ _ _ a0 hf
    exact ob_X3_lastMinute_L9 h hE hR  ih a0 hf
def f_X3_lastMinute (E : Env1) (M : Mem) (v0 : Nat) (v1 : Int32) (v2 : Int32) : Option (Int32) :=
  nm ((jmin v2 (40 : Int32)) - (1 : Int32)) fun x1 =>
  f_X3_lastMinute_L9 E M FU v0 v1 x1
set_option maxRecDepth 100000 in
set_option maxHeartbeats 4000000 in
theorem ok_X3_lastMinute {E : Env1} (hE : WF E) (l0 : Launch) {M : Mem} {v0 : Nat} {v1 : Int32} {v2 : Int32} {r : Int32} (h0 : isK E v0 2) (hf : f_X3_lastMinute E M v0 v1 v2 = some r) : Met l0 yX3_lastMinute (wsA yX3_lastMinute cX3_lastMinute 4 (some .int)) rm_X3_lastMinute (CP E M [.ref v0, .int v1, .int v2]) (CQi E r M) 0 0 (eA E) := by
  unfold f_X3_lastMinute at hf
  refine mtI l0 (by decide +kernel) (Nat.le_of_ble_eq_true rfl) (L0 := [some (.ref v0), some (.int v1), some (.int v2), none]) rfl (fun X h hR => ?_)
  refine G_iload_n h dX3_lastMinute_0 (i := 2) rfl rfl rfl ?_
  refine G_bipush h dX3_lastMinute_1 kb_40 rfl ?_
  refine cm_X3_56 h dX3_lastMinute_3 (Nat.le_of_ble_eq_true rfl) (Nat.le_of_ble_eq_true rfl) rfl ?_
  refine G_iconst h dX3_lastMinute_6 ki_1 rfl ?_
  refine G_isub h dX3_lastMinute_7 rfl ?_
  refine G_nmi (fun x1 hx1 => ?_)
  have hf := nm_eq hx1 hf
  refine G_istore_n h dX3_lastMinute_8 (i := 3) rfl (by decide) (L' := [some (.ref v0), some (.int v1), some (.int v2), some (.int x1)]) rfl rfl ?_
  refine G_mskL [true, true, false, true] (L' := [some (.ref v0), some (.int v1), none, some (.int x1)]) rfl ?_
  exact o_X3_lastMinute_L9 h hE hR  FU _ _ _ h0 hf
def rm_X3_latestOf : Room := { frames := 2, cells := 0, slots := 0, locals := 44 }
def b_X3_latestOf_L19 (E : Env1) (M : Mem) (k19 : Nat → Int32 → Int32 → Int32 → (Option (Int32))) (v0 : Nat) (v1 : Int32) (v2 : Int32) (v3 : Int32) : Option (Int32) :=
  if (8 : Int32) ≤ v3 then (some v2)
  else (
    if (((mi M v0 3) &&& (v1 ^^^ (-1 : Int32))) &&& ((1 : Int32) <<< (v3 &&& 31))) = 0 then (k19 v0 v1 v2 (v3 + 1))
    else (
      gd (v1 ||| ((1 : Int32) <<< (v3 &&& 31))) 256 ((f_X3_lastMinute E M v0 v3 (mi M (rr E v0 2) (ix (v1 ||| ((1 : Int32) <<< (v3 &&& 31)))))).bind fun x4 =>
      k19 v0 v1 (jmax v2 x4) (v3 + 1))))
set_option maxRecDepth 100000 in
set_option maxHeartbeats 4000000 in
theorem ob_X3_latestOf_L19 {X : Ctx} {l0 : Launch} {E : Env1} (h : Cx X l0 E RX3 cX3_latestOf (some .int) 5 rm_X3_latestOf) (hE : WF E) {M : Mem} {r : Int32} (hR : RetI X E cX3_latestOf r M) {k19 : Nat → Int32 → Int32 → Int32 → (Option (Int32))} (hk19 : ∀ (v0 : Nat) (v1 : Int32) (v2 : Int32) (v3 : Int32), isK E v0 2 → k19 v0 v1 v2 v3 = some r → G X E (0, 0) 19 [some (.ref v0), some (.int v1), some (.int v2), some (.int v3), none] [] M) {v0 : Nat} {v1 : Int32} {v2 : Int32} {v3 : Int32} (h_v0 : isK E v0 2) (hf : b_X3_latestOf_L19 E M k19 v0 v1 v2 v3 = some r) : G X E (0, 0) 19 [some (.ref v0), some (.int v1), some (.int v2), some (.int v3), none] [] M := by
  unfold b_X3_latestOf_L19 at hf
  refine G_iload_n h dX3_latestOf_19 (i := 3) rfl rfl rfl ?_
  refine G_bipush h dX3_latestOf_20 kb_8 rfl ?_
  refine G_icmp_ge h dX3_latestOf_22 (tgt := 69) (by decide) rfl (fun c1 => ?_) (fun c1 => ?_)
  · have hf := it_t c1 hf
    refine G_iload_n h dX3_latestOf_69 (i := 2) rfl rfl rfl ?_
    exact roI hR dX3_latestOf_70 hf
  · have hf := it_f c1 hf
    refine G_iconst h dX3_latestOf_25 ki_1 rfl ?_
    refine G_iload_n h dX3_latestOf_26 (i := 3) rfl rfl rfl ?_
    refine G_ishl h dX3_latestOf_27 rfl ?_
    refine G_istore h dX3_latestOf_28  (by decide) (L' := [some (.ref v0), some (.int v1), some (.int v2), some (.int v3), some (.int ((1 : Int32) <<< (v3 &&& 31)))]) rfl rfl ?_
    refine G_aload_n h dX3_latestOf_30 (i := 0) rfl rfl rfl ?_
    refine gf_X3_21 h dX3_latestOf_31 h_v0 rfl ?_
    refine G_iload_n h dX3_latestOf_34 (i := 1) rfl rfl rfl ?_
    refine G_iconst h dX3_latestOf_35 ki_m1 rfl ?_
    refine G_ixor h dX3_latestOf_36 rfl ?_
    refine G_iand h dX3_latestOf_37 rfl ?_
    refine G_iload h dX3_latestOf_38 rfl rfl ?_
    refine G_iand h dX3_latestOf_40 rfl ?_
    refine G_if_eq h dX3_latestOf_41 (tgt := 63) (by decide) rfl (fun c2 => ?_) (fun c2 => ?_)
    · have hf := it_t c2 hf
      refine G_iinc2 h dX3_latestOf_63 rfl ki_1 (by decide) (L' := [some (.ref v0), some (.int v1), some (.int v2), some (.int (v3 + 1)), some (.int ((1 : Int32) <<< (v3 &&& 31)))]) rfl rfl ?_
      refine G_goto h dX3_latestOf_66 (tgt := 19) (by decide) ?_
      refine G_mskL [true, true, true, true, false] (L' := [some (.ref v0), some (.int v1), some (.int v2), some (.int (v3 + 1)), none]) rfl ?_
      exact hk19 _ _ _ _ h_v0 hf
    · have hf := it_f c2 hf
      refine G_iload_n h dX3_latestOf_44 (i := 2) rfl rfl rfl ?_
      refine G_aload_n h dX3_latestOf_45 (i := 0) rfl rfl rfl ?_
      refine G_iload_n h dX3_latestOf_46 (i := 3) rfl rfl rfl ?_
      refine G_aload_n h dX3_latestOf_47 (i := 0) rfl rfl rfl ?_
      refine gf_X3_18 h hE dX3_latestOf_48 h_v0 rfl ?_
      refine G_iload_n h dX3_latestOf_51 (i := 1) rfl rfl rfl ?_
      refine G_iload h dX3_latestOf_52 rfl rfl ?_
      refine G_ior h dX3_latestOf_54 rfl ?_
      obtain ⟨g3, hf⟩ := gd_some hf
      refine G_iald h dX3_latestOf_55 ((w_2_2 hE h_v0).2) g3 (jx := (ix (v1 ||| ((1 : Int32) <<< (v3 &&& 31))))) rfl rfl ?_
      obtain ⟨x4, hx4, hf⟩ := bd hf
      refine cl_X3_70 h (ok_X3_lastMinute hE _ h_v0 hx4) dX3_latestOf_56 h_v0 (as := [.int v3, .int (mi M (rr E v0 2) (ix (v1 ||| ((1 : Int32) <<< (v3 &&& 31)))))]) rfl rfl ⟨rfl, rfl, Nat.le_of_ble_eq_true rfl, Nat.le_of_ble_eq_true rfl⟩ rfl (Nat.le_of_ble_eq_true rfl) ?_
      refine cm_X3_61 h dX3_latestOf_59 (Nat.le_of_ble_eq_true rfl) (Nat.le_of_ble_eq_true rfl) rfl ?_
      refine G_istore_n h dX3_latestOf_62 (i := 2) rfl (by decide) (L' := [some (.ref v0), some (.int v1), some (.int (jmax v2 x4)), some (.int v3), some (.int ((1 : Int32) <<< (v3 &&& 31)))]) rfl rfl ?_
      refine G_iinc2 h dX3_latestOf_63 rfl ki_1 (by decide) (L' := [some (.ref v0), some (.int v1), some (.int (jmax v2 x4)), some (.int (v3 + 1)), some (.int ((1 : Int32) <<< (v3 &&& 31)))]) rfl rfl ?_
      refine G_goto h dX3_latestOf_66 (tgt := 19) (by decide) ?_
      refine G_mskL [true, true, true, true, false] (L' := [some (.ref v0), some (.int v1), some (.int (jmax v2 x4)), some (.int (v3 + 1)), none]) rfl ?_
      exact hk19 _ _ _ _ h_v0 hf
def f_X3_latestOf_L19 (E : Env1) (M : Mem) : Nat → Nat → Int32 → Int32 → Int32 → (Option (Int32))
  | 0 => fun _ _ _ _ => none
  | n + 1 => b_X3_latestOf_L19 E M (f_X3_latestOf_L19 E M n)
theorem o_X3_latestOf_L19 {X : Ctx} {l0 : Launch} {E : Env1} (h : Cx X l0 E RX3 cX3_latestOf (some .int) 5 rm_X3_latestOf) (hE : WF E) {M : Mem} {r : Int32} (hR : RetI X E cX3_latestOf r M) : ∀ (n : Nat) (v0 : Nat) (v1 : Int32) (v2 : Int32) (v3 : Int32), isK E v0 2 → f_X3_latestOf_L19 E M n v0 v1 v2 v3 = some r → G X E (0, 0) 19 [some (.ref v0), some (.int v1), some (.int v2), some (.int v3), none] [] M := by
  intro n
  induction n with
  | zero =>
    intro _ _ _ _ a0 hf
    have h0 : (none : Option (Int32)) = some r := hf
    cases h0
  | succ n ih =>
    intro _ _ _ _ a0 hf
    exact ob_X3_latestOf_L19 h hE hR  ih a0 hf
def f_X3_latestOf (E : Env1) (M : Mem) (v0 : Nat) (v1 : Int32) : Option (Int32) :=
  nm (if v1 = (mi M v0 3) then mi M v0 4 else (-1 : Int32)) fun x2 =>
  f_X3_latestOf_L19 E M FU v0 v1 x2 (0 : Int32)
set_option maxRecDepth 100000 in
set_option maxHeartbeats 4000000 in
theorem ok_X3_latestOf {E : Env1} (hE : WF E) (l0 : Launch) {M : Mem} {v0 : Nat} {v1 : Int32} {r : Int32} (h0 : isK E v0 2) (hf : f_X3_latestOf E M v0 v1 = some r) : Met l0 yX3_latestOf (wsA yX3_latestOf cX3_latestOf 5 (some .int)) rm_X3_latestOf (CP E M [.ref v0, .int v1]) (CQi E r M) 0 0 (eA E) := by
  unfold f_X3_latestOf at hf
  refine mtI l0 (by decide +kernel) (Nat.le_of_ble_eq_true rfl) (L0 := [some (.ref v0), some (.int v1), none, none, none]) rfl (fun X h hR => ?_)
  refine G_iload_n h dX3_latestOf_0 (i := 1) rfl rfl rfl ?_
  refine G_aload_n h dX3_latestOf_1 (i := 0) rfl rfl rfl ?_
  refine gf_X3_21 h dX3_latestOf_2 h0 rfl ?_
  have hJ : G X E (0, 0) 16 [some (.ref v0), some (.int v1), none, none, none] [.int (if v1 = (mi M v0 3) then mi M v0 4 else (-1 : Int32))] M := by
    refine G_nmi (fun x2 hx2 => ?_)
    have hf := nm_eq hx2 hf
    refine G_istore_n h dX3_latestOf_16 (i := 2) rfl (by decide) (L' := [some (.ref v0), some (.int v1), some (.int x2), none, none]) rfl rfl ?_
    refine G_iconst h dX3_latestOf_17 ki_0 rfl ?_
    refine G_istore_n h dX3_latestOf_18 (i := 3) rfl (by decide) (L' := [some (.ref v0), some (.int v1), some (.int x2), some (.int (0 : Int32)), none]) rfl rfl ?_
    exact o_X3_latestOf_L19 h hE hR  FU _ _ _ _ h0 hf
  refine G_icmp_ne h dX3_latestOf_5 (tgt := 15) (by decide) rfl (fun c1 => ?_) (fun c1 => ?_)
  · refine G_iconst h dX3_latestOf_15 ki_m1 rfl ?_
    exact G_ifn c1 hJ
  · refine G_aload_n h dX3_latestOf_8 (i := 0) rfl rfl rfl ?_
    refine gf_X3_25 h dX3_latestOf_9 h0 rfl ?_
    refine G_goto h dX3_latestOf_12 (tgt := 16) (by decide) ?_
    exact G_ifp c1 hJ
def rm_X3_leavesTime : Room := { frames := 1, cells := 0, slots := 0, locals := 22 }
def f_X3_leavesTime (E : Env1) (M : Mem) (v0 : Nat) (v1 : Int32) (v2 : Int32) : Option (Int32) :=
  if (f_X8_within E M v1 (0 : Int32) (255 : Int32)) = 0 then (some (0 : Int32))
  else (
    gd v1 256 (if (mi M (rr E v0 2) (ix v1)) ≤ v2 then (some (0 : Int32))
    else (some (1 : Int32))))
set_option maxRecDepth 100000 in
set_option maxHeartbeats 4000000 in
theorem ok_X3_leavesTime {E : Env1} (hE : WF E) (l0 : Launch) {M : Mem} {v0 : Nat} {v1 : Int32} {v2 : Int32} {r : Int32} (h0 : isK E v0 2) (hf : f_X3_leavesTime E M v0 v1 v2 = some r) : Met l0 yX3_leavesTime (wsA yX3_leavesTime cX3_leavesTime 3 (some .boolean)) rm_X3_leavesTime (CP E M [.ref v0, .int v1, .int v2]) (CQz E r M) 0 0 (eA E) := by
  unfold f_X3_leavesTime at hf
  refine mtZ l0 (by decide +kernel) (Nat.le_of_ble_eq_true rfl) (L0 := [some (.ref v0), some (.int v1), some (.int v2)]) rfl (fun X h hR => ?_)
  refine G_iload_n h dX3_leavesTime_0 (i := 1) rfl rfl rfl ?_
  refine G_iconst h dX3_leavesTime_1 ki_0 rfl ?_
  refine G_sipush h dX3_leavesTime_2 ks_255 rfl ?_
  refine cl_X3_49 h (ok_X8_within hE _  (r := f_X8_within E M v1 (0 : Int32) (255 : Int32)) rfl) dX3_leavesTime_5 (as := [.int v1, .int (0 : Int32), .int (255 : Int32)]) rfl rfl ⟨rfl, rfl, Nat.le_of_ble_eq_true rfl, Nat.le_of_ble_eq_true rfl⟩ rfl (Nat.le_of_ble_eq_true rfl) (fun z1 => ?_)
  refine G_if_eq h dX3_leavesTime_8 (tgt := 25) (by decide) rfl (fun c2 => ?_) (fun c2 => ?_)
  · have hf := it_t c2 hf
    refine G_iconst h dX3_leavesTime_25 ki_0 rfl ?_
    exact roZ hR dX3_leavesTime_26 (Or.inl rfl) hf
  · have hf := it_f c2 hf
    refine G_aload_n h dX3_leavesTime_11 (i := 0) rfl rfl rfl ?_
    refine gf_X3_18 h hE dX3_leavesTime_12 h0 rfl ?_
    refine G_iload_n h dX3_leavesTime_15 (i := 1) rfl rfl rfl ?_
    obtain ⟨g3, hf⟩ := gd_some hf
    refine G_iald h dX3_leavesTime_16 ((w_2_2 hE h0).2) g3 (jx := (ix v1)) rfl rfl ?_
    refine G_iload_n h dX3_leavesTime_17 (i := 2) rfl rfl rfl ?_
    refine G_icmp_le h dX3_leavesTime_18 (tgt := 25) (by decide) rfl (fun c4 => ?_) (fun c4 => ?_)
    · have hf := it_t c4 hf
      refine G_iconst h dX3_leavesTime_25 ki_0 rfl ?_
      exact roZ hR dX3_leavesTime_26 (Or.inl rfl) hf
    · have hf := it_f c4 hf
      refine G_iconst h dX3_leavesTime_21 ki_1 rfl ?_
      refine G_goto h dX3_leavesTime_22 (tgt := 26) (by decide) ?_
      exact roZ hR dX3_leavesTime_26 (Or.inr rfl) hf
def rm_X3_firstDeed : Room := { frames := 2, cells := 0, slots := 0, locals := 44 }
def b_X3_firstDeed_L13 (E : Env1) (M : Mem) (k13 : Nat → Int32 → Int32 → Int32 → (Option (Int32))) (v0 : Nat) (v1 : Int32) (v2 : Int32) (v3 : Int32) : Option (Int32) :=
  if (8 : Int32) ≤ v3 then (some (-1 : Int32))
  else (
    gd v2 40 (if (((mi M (rr E v0 0) (ix v2)) &&& (v1 ^^^ (-1 : Int32))) &&& ((1 : Int32) <<< (v3 &&& 31))) = 0 then (k13 v0 v1 v2 (v3 + 1))
    else (
      (f_X3_leavesTime E M v0 (v1 ||| ((1 : Int32) <<< (v3 &&& 31))) v2).bind fun x5 =>
      if x5 = 0 then (k13 v0 v1 v2 (v3 + 1))
      else (some v3))))
set_option maxRecDepth 100000 in
set_option maxHeartbeats 4000000 in
theorem ob_X3_firstDeed_L13 {X : Ctx} {l0 : Launch} {E : Env1} (h : Cx X l0 E RX3 cX3_firstDeed (some .int) 5 rm_X3_firstDeed) (hE : WF E) {M : Mem} {r : Int32} (hR : RetI X E cX3_firstDeed r M) {k13 : Nat → Int32 → Int32 → Int32 → (Option (Int32))} (hk13 : ∀ (v0 : Nat) (v1 : Int32) (v2 : Int32) (v3 : Int32), isK E v0 2 → k13 v0 v1 v2 v3 = some r → G X E (0, 0) 13 [some (.ref v0), some (.int v1), some (.int v2), some (.int v3), none] [] M) {v0 : Nat} {v1 : Int32} {v2 : Int32} {v3 : Int32} (h_v0 : isK E v0 2) (hf : b_X3_firstDeed_L13 E M k13 v0 v1 v2 v3 = some r) : G X E (0, 0) 13 [some (.ref v0), some (.int v1), some (.int v2), some (.int v3), none] [] M := by
  unfold b_X3_firstDeed_L13 at hf
  refine G_iload_n h dX3_firstDeed_13 (i := 3) rfl rfl rfl ?_
  refine G_bipush h dX3_firstDeed_14 kb_8 rfl ?_
  refine G_icmp_ge h dX3_firstDeed_16 (tgt := 60) (by decide) rfl (fun c1 => ?_) (fun c1 => ?_)
  · have hf := it_t c1 hf
    refine G_iconst h dX3_firstDeed_60 ki_m1 rfl ?_
    exact roI hR dX3_firstDeed_61 hf
  · have hf := it_f c1 hf
    refine G_iconst h dX3_firstDeed_19 ki_1 rfl ?_
    refine G_iload_n h dX3_firstDeed_20 (i := 3) rfl rfl rfl ?_
    refine G_ishl h dX3_firstDeed_21 rfl ?_
    refine G_istore h dX3_firstDeed_22  (by decide) (L' := [some (.ref v0), some (.int v1), some (.int v2), some (.int v3), some (.int ((1 : Int32) <<< (v3 &&& 31)))]) rfl rfl ?_
    refine G_aload_n h dX3_firstDeed_24 (i := 0) rfl rfl rfl ?_
    refine gf_X3_11 h hE dX3_firstDeed_25 h_v0 rfl ?_
    refine G_iload_n h dX3_firstDeed_28 (i := 2) rfl rfl rfl ?_
    obtain ⟨g2, hf⟩ := gd_some hf
    refine G_iald h dX3_firstDeed_29 ((w_2_0 hE h_v0).2) g2 (jx := (ix v2)) rfl rfl ?_
    refine G_iload_n h dX3_firstDeed_30 (i := 1) rfl rfl rfl ?_
    refine G_iconst h dX3_firstDeed_31 ki_m1 rfl ?_
    refine G_ixor h dX3_firstDeed_32 rfl ?_
    refine G_iand h dX3_firstDeed_33 rfl ?_
    refine G_iload h dX3_firstDeed_34 rfl rfl ?_
    refine G_iand h dX3_firstDeed_36 rfl ?_
    refine G_if_eq h dX3_firstDeed_37 (tgt := 54) (by decide) rfl (fun c3 => ?_) (fun c3 => ?_)
    · have hf := it_t c3 hf
      refine G_iinc2 h dX3_firstDeed_54 rfl ki_1 (by decide) (L' := [some (.ref v0), some (.int v1), some (.int v2), some (.int (v3 + 1)), some (.int ((1 : Int32) <<< (v3 &&& 31)))]) rfl rfl ?_
      refine G_goto h dX3_firstDeed_57 (tgt := 13) (by decide) ?_
      refine G_mskL [true, true, true, true, false] (L' := [some (.ref v0), some (.int v1), some (.int v2), some (.int (v3 + 1)), none]) rfl ?_
      exact hk13 _ _ _ _ h_v0 hf
    · have hf := it_f c3 hf
      refine G_aload_n h dX3_firstDeed_40 (i := 0) rfl rfl rfl ?_
      refine G_iload_n h dX3_firstDeed_41 (i := 1) rfl rfl rfl ?_
      refine G_iload h dX3_firstDeed_42 rfl rfl ?_
      refine G_ior h dX3_firstDeed_44 rfl ?_
      refine G_iload_n h dX3_firstDeed_45 (i := 2) rfl rfl rfl ?_
      obtain ⟨x5, hx5, hf⟩ := bd hf
      refine cl_X3_73 h (ok_X3_leavesTime hE _ h_v0 hx5) dX3_firstDeed_46 h_v0 (as := [.int (v1 ||| ((1 : Int32) <<< (v3 &&& 31))), .int v2]) rfl rfl ⟨rfl, rfl, Nat.le_of_ble_eq_true rfl, Nat.le_of_ble_eq_true rfl⟩ rfl (Nat.le_of_ble_eq_true rfl) (fun z4 => ?_)
      refine G_if_eq h dX3_firstDeed_49 (tgt := 54) (by decide) rfl (fun c6 => ?_) (fun c6 => ?_)
      · have hf := it_t c6 hf
        refine G_iinc2 h dX3_firstDeed_54 rfl ki_1 (by decide) (L' := [some (.ref v0), some (.int v1), some (.int v2), some (.int (v3 + 1)), some (.int ((1 : Int32) <<< (v3 &&& 31)))]) rfl rfl ?_
        refine G_goto h dX3_firstDeed_57 (tgt := 13) (by decide) ?_
        refine G_mskL [true, true, true, true, false] (L' := [some (.ref v0), some (.int v1), some (.int v2), some (.int (v3 + 1)), none]) rfl ?_
        exact hk13 _ _ _ _ h_v0 hf
      · have hf := it_f c6 hf
        refine G_iload_n h dX3_firstDeed_52 (i := 3) rfl rfl rfl ?_
        exact roI hR dX3_firstDeed_53 hf
def f_X3_firstDeed_L13 (E : Env1) (M : Mem) : Nat → Nat → Int32 → Int32 → Int32 → (Option (Int32))
  | 0 => fun _ _ _ _ => none
  | n + 1 => b_X3_firstDeed_L13 E M (f_X3_firstDeed_L13 E M n)
theorem o_X3_firstDeed_L13 {X : Ctx} {l0 : Launch} {E : Env1} (h : Cx X l0 E RX3 cX3_firstDeed (some .int) 5 rm_X3_firstDeed) (hE : WF E) {M : Mem} {r : Int32} (hR : RetI X E cX3_firstDeed r M) : ∀ (n : Nat) (v0 : Nat) (v1 : Int32) (v2 : Int32) (v3 : Int32), isK E v0 2 → f_X3_firstDeed_L13 E M n v0 v1 v2 v3 = some r → G X E (0, 0) 13 [some (.ref v0), some (.int v1), some (.int v2), some (.int v3), none] [] M := by
  intro n
  induction n with
  | zero =>
    intro _ _ _ _ a0 hf
    have h0 : (none : Option (Int32)) = some r := hf
    cases h0
  | succ n ih =>
    intro _ _ _ _ a0 hf
    exact ob_X3_firstDeed_L13 h hE hR  ih a0 hf
def f_X3_firstDeed (E : Env1) (M : Mem) (v0 : Nat) (v1 : Int32) (v2 : Int32) : Option (Int32) :=
  (f_X3_leavesTime E M v0 v1 v2).bind fun x2 =>
  if x2 = 0 then (f_X3_firstDeed_L13 E M FU v0 v1 v2 (0 : Int32))
  else (some (-1 : Int32))
set_option maxRecDepth 100000 in
set_option maxHeartbeats 4000000 in
theorem ok_X3_firstDeed {E : Env1} (hE : WF E) (l0 : Launch) {M : Mem} {v0 : Nat} {v1 : Int32} {v2 : Int32} {r : Int32} (h0 : isK E v0 2) (hf : f_X3_firstDeed E M v0 v1 v2 = some r) : Met l0 yX3_firstDeed (wsA yX3_firstDeed cX3_firstDeed 5 (some .int)) rm_X3_firstDeed (CP E M [.ref v0, .int v1, .int v2]) (CQi E r M) 0 0 (eA E) := by
  unfold f_X3_firstDeed at hf
  refine mtI l0 (by decide +kernel) (Nat.le_of_ble_eq_true rfl) (L0 := [some (.ref v0), some (.int v1), some (.int v2), none, none]) rfl (fun X h hR => ?_)
  refine G_aload_n h dX3_firstDeed_0 (i := 0) rfl rfl rfl ?_
  refine G_iload_n h dX3_firstDeed_1 (i := 1) rfl rfl rfl ?_
  refine G_iload_n h dX3_firstDeed_2 (i := 2) rfl rfl rfl ?_
  obtain ⟨x2, hx2, hf⟩ := bd hf
  refine cl_X3_73 h (ok_X3_leavesTime hE _ h0 hx2) dX3_firstDeed_3 h0 (as := [.int v1, .int v2]) rfl rfl ⟨rfl, rfl, Nat.le_of_ble_eq_true rfl, Nat.le_of_ble_eq_true rfl⟩ rfl (Nat.le_of_ble_eq_true rfl) (fun z1 => ?_)
  refine G_if_eq h dX3_firstDeed_6 (tgt := 11) (by decide) rfl (fun c3 => ?_) (fun c3 => ?_)
  · have hf := it_t c3 hf
    refine G_iconst h dX3_firstDeed_11 ki_0 rfl ?_
    refine G_istore_n h dX3_firstDeed_12 (i := 3) rfl (by decide) (L' := [some (.ref v0), some (.int v1), some (.int v2), some (.int (0 : Int32)), none]) rfl rfl ?_
    exact o_X3_firstDeed_L13 h hE hR  FU _ _ _ _ h0 hf
  · have hf := it_f c3 hf
    refine G_iconst h dX3_firstDeed_9 ki_m1 rfl ?_
    exact roI hR dX3_firstDeed_10 hf
def rm_X3_deed : Room := { frames := 3, cells := 0, slots := 0, locals := 68 }
def b_X3_deed_L32 (E : Env1) (k32 : Mem → Nat → Int32 → Int32 → Int32 → Int32 → (Option (Int32 × Mem))) (M : Mem) (v0 : Nat) (v1 : Int32) (v2 : Int32) (v3 : Int32) (v4 : Int32) : Option (Int32 × Mem) :=
  if v1 < v4 then (some (v3, M))
  else (
    if (mi M v0 4) ≤ v4 then (some (v3, M))
    else (
      if (40 : Int32) ≤ v4 then (some (v3, M))
      else (
        (f_X3_firstDeed E M v0 v2 v4).bind fun x4 =>
        nm (v2 ||| (if x4 = (-1 : Int32) then (0 : Int32) else (1 : Int32) <<< (x4 &&& 31))) fun x6 =>
        k32 M v0 v1 x6 x4 (v4 + 1))))
set_option maxRecDepth 100000 in
set_option maxHeartbeats 4000000 in
theorem ob_X3_deed_L32 {X : Ctx} {l0 : Launch} {E : Env1} (h : Cx X l0 E RX3 cX3_deed (some .int) 5 rm_X3_deed) (hE : WF E) {M' : Mem} {r : Int32} (hR : RetI X E cX3_deed r M') {k32 : Mem → Nat → Int32 → Int32 → Int32 → Int32 → (Option (Int32 × Mem))} (hk32 : ∀ (M : Mem) (v0 : Nat) (v1 : Int32) (v2 : Int32) (v3 : Int32) (v4 : Int32), isK E v0 2 → k32 M v0 v1 v2 v3 v4 = some (r, M') → G X E (0, 0) 32 [some (.ref v0), some (.int v1), some (.int v2), some (.int v3), some (.int v4)] [] M) {M : Mem} {v0 : Nat} {v1 : Int32} {v2 : Int32} {v3 : Int32} {v4 : Int32} (h_v0 : isK E v0 2) (hf : b_X3_deed_L32 E k32 M v0 v1 v2 v3 v4 = some (r, M')) : G X E (0, 0) 32 [some (.ref v0), some (.int v1), some (.int v2), some (.int v3), some (.int v4)] [] M := by
  unfold b_X3_deed_L32 at hf
  refine G_iload h dX3_deed_32 rfl rfl ?_
  refine G_iload_n h dX3_deed_34 (i := 1) rfl rfl rfl ?_
  refine G_icmp_gt h dX3_deed_35 (tgt := 83) (by decide) rfl (fun c1 => ?_) (fun c1 => ?_)
  · have hf := it_t c1 hf
    refine G_iload_n h dX3_deed_83 (i := 3) rfl rfl rfl ?_
    exact pwI hR dX3_deed_84 hf
  · have hf := it_f c1 hf
    refine G_iload h dX3_deed_38 rfl rfl ?_
    refine G_aload_n h dX3_deed_40 (i := 0) rfl rfl rfl ?_
    refine gf_X3_25 h dX3_deed_41 h_v0 rfl ?_
    refine G_icmp_ge h dX3_deed_44 (tgt := 83) (by decide) rfl (fun c2 => ?_) (fun c2 => ?_)
    · have hf := it_t c2 hf
      refine G_iload_n h dX3_deed_83 (i := 3) rfl rfl rfl ?_
      exact pwI hR dX3_deed_84 hf
    · have hf := it_f c2 hf
      refine G_iload h dX3_deed_47 rfl rfl ?_
      refine G_bipush h dX3_deed_49 kb_40 rfl ?_
      refine G_icmp_ge h dX3_deed_51 (tgt := 83) (by decide) rfl (fun c3 => ?_) (fun c3 => ?_)
      · have hf := it_t c3 hf
        refine G_iload_n h dX3_deed_83 (i := 3) rfl rfl rfl ?_
        exact pwI hR dX3_deed_84 hf
      · have hf := it_f c3 hf
        refine G_aload_n h dX3_deed_54 (i := 0) rfl rfl rfl ?_
        refine G_iload_n h dX3_deed_55 (i := 2) rfl rfl rfl ?_
        refine G_iload h dX3_deed_56 rfl rfl ?_
        obtain ⟨x4, hx4, hf⟩ := bd hf
        refine cl_X3_67 h (ok_X3_firstDeed hE _ h_v0 hx4) dX3_deed_58 h_v0 (as := [.int v2, .int v4]) rfl rfl ⟨rfl, rfl, Nat.le_of_ble_eq_true rfl, Nat.le_of_ble_eq_true rfl⟩ rfl (Nat.le_of_ble_eq_true rfl) ?_
        refine G_istore_n h dX3_deed_61 (i := 3) rfl (by decide) (L' := [some (.ref v0), some (.int v1), some (.int v2), some (.int x4), some (.int v4)]) rfl rfl ?_
        refine G_iload_n h dX3_deed_62 (i := 2) rfl rfl rfl ?_
        refine G_iload_n h dX3_deed_63 (i := 3) rfl rfl rfl ?_
        refine G_iconst h dX3_deed_64 ki_m1 rfl ?_
        have hJ : G X E (0, 0) 75 [some (.ref v0), some (.int v1), some (.int v2), some (.int x4), some (.int v4)] [.int (if x4 = (-1 : Int32) then (0 : Int32) else (1 : Int32) <<< (x4 &&& 31)), .int v2] M := by
          refine G_ior h dX3_deed_75 rfl ?_
          refine G_nmi (fun x6 hx6 => ?_)
          have hf := nm_eq hx6 hf
          refine G_istore_n h dX3_deed_76 (i := 2) rfl (by decide) (L' := [some (.ref v0), some (.int v1), some (.int x6), some (.int x4), some (.int v4)]) rfl rfl ?_
          refine G_iinc2 h dX3_deed_77 rfl ki_1 (by decide) (L' := [some (.ref v0), some (.int v1), some (.int x6), some (.int x4), some (.int (v4 + 1))]) rfl rfl ?_
          refine G_goto h dX3_deed_80 (tgt := 32) (by decide) ?_
          exact hk32 _ _ _ _ _ _ h_v0 hf
        refine G_icmp_ne h dX3_deed_65 (tgt := 72) (by decide) rfl (fun c5 => ?_) (fun c5 => ?_)
        · refine G_iconst h dX3_deed_72 ki_1 rfl ?_
          refine G_iload_n h dX3_deed_73 (i := 3) rfl rfl rfl ?_
          refine G_ishl h dX3_deed_74 rfl ?_
          exact G_ifn c5 hJ
        · refine G_iconst h dX3_deed_68 ki_0 rfl ?_
          refine G_goto h dX3_deed_69 (tgt := 75) (by decide) ?_
          exact G_ifp c5 hJ
def f_X3_deed_L32 (E : Env1) : Nat → Mem → Nat → Int32 → Int32 → Int32 → Int32 → (Option (Int32 × Mem))
  | 0 => fun _ _ _ _ _ _ => none
  | n + 1 => b_X3_deed_L32 E (f_X3_deed_L32 E n)
theorem o_X3_deed_L32 {X : Ctx} {l0 : Launch} {E : Env1} (h : Cx X l0 E RX3 cX3_deed (some .int) 5 rm_X3_deed) (hE : WF E) {M' : Mem} {r : Int32} (hR : RetI X E cX3_deed r M') : ∀ (n : Nat) (M : Mem) (v0 : Nat) (v1 : Int32) (v2 : Int32) (v3 : Int32) (v4 : Int32), isK E v0 2 → f_X3_deed_L32 E n M v0 v1 v2 v3 v4 = some (r, M') → G X E (0, 0) 32 [some (.ref v0), some (.int v1), some (.int v2), some (.int v3), some (.int v4)] [] M := by
  intro n
  induction n with
  | zero =>
    intro _ _ _ _ _ _ a0 hf
    have h0 : (none : Option (Int32 × Mem)) = some (r, M') := hf
    cases h0
  | succ n ih =>
    intro _ _ _ _ _ _ a0 hf
    exact ob_X3_deed_L32 h hE hR  ih a0 hf
def b_X3_deed_L4 (E : Env1) (k4 : Mem → Nat → Int32 → Int32 → (Option (Int32 × Mem))) (M : Mem) (v0 : Nat) (v1 : Int32) (v2 : Int32) : Option (Int32 × Mem) :=
  if v2 < 0 then (f_X3_deed_L32 E FU M v0 v1 (0 : Int32) (-1 : Int32) (0 : Int32))
  else (
    (f_X3_latestOf E M v0 v2).bind fun x2 =>
    gd v2 256 (k4 (wi M (rr E v0 2) (ix v2) x2) v0 v1 (v2 + (-1))))
set_option maxRecDepth 100000 in
set_option maxHeartbeats 4000000 in
theorem ob_X3_deed_L4 {X : Ctx} {l0 : Launch} {E : Env1} (h : Cx X l0 E RX3 cX3_deed (some .int) 5 rm_X3_deed) (hE : WF E) {M' : Mem} {r : Int32} (hR : RetI X E cX3_deed r M') {k4 : Mem → Nat → Int32 → Int32 → (Option (Int32 × Mem))} (hk4 : ∀ (M : Mem) (v0 : Nat) (v1 : Int32) (v2 : Int32), isK E v0 2 → k4 M v0 v1 v2 = some (r, M') → G X E (0, 0) 4 [some (.ref v0), some (.int v1), some (.int v2), none, none] [] M) {M : Mem} {v0 : Nat} {v1 : Int32} {v2 : Int32} (h_v0 : isK E v0 2) (hf : b_X3_deed_L4 E k4 M v0 v1 v2 = some (r, M')) : G X E (0, 0) 4 [some (.ref v0), some (.int v1), some (.int v2), none, none] [] M := by
  unfold b_X3_deed_L4 at hf
  refine G_iload_n h dX3_deed_4 (i := 2) rfl rfl rfl ?_
  refine G_if_lt h dX3_deed_5 (tgt := 25) (by decide) rfl (fun c1 => ?_) (fun c1 => ?_)
  · have hf := it_t c1 hf
    refine G_iconst h dX3_deed_25 ki_0 rfl ?_
    refine G_istore_n h dX3_deed_26 (i := 2) rfl (by decide) (L' := [some (.ref v0), some (.int v1), some (.int (0 : Int32)), none, none]) rfl rfl ?_
    refine G_iconst h dX3_deed_27 ki_m1 rfl ?_
    refine G_istore_n h dX3_deed_28 (i := 3) rfl (by decide) (L' := [some (.ref v0), some (.int v1), some (.int (0 : Int32)), some (.int (-1 : Int32)), none]) rfl rfl ?_
    refine G_iconst h dX3_deed_29 ki_0 rfl ?_
    refine G_istore h dX3_deed_30  (by decide) (L' := [some (.ref v0), some (.int v1), some (.int (0 : Int32)), some (.int (-1 : Int32)), some (.int (0 : Int32))]) rfl rfl ?_
    exact o_X3_deed_L32 h hE hR  FU _ _ _ _ _ _ h_v0 hf
  · have hf := it_f c1 hf
    refine G_aload_n h dX3_deed_8 (i := 0) rfl rfl rfl ?_
    refine gf_X3_18 h hE dX3_deed_9 h_v0 rfl ?_
    refine G_iload_n h dX3_deed_12 (i := 2) rfl rfl rfl ?_
    refine G_aload_n h dX3_deed_13 (i := 0) rfl rfl rfl ?_
    refine G_iload_n h dX3_deed_14 (i := 2) rfl rfl rfl ?_
    obtain ⟨x2, hx2, hf⟩ := bd hf
    refine cl_X3_64 h (ok_X3_latestOf hE _ h_v0 hx2) dX3_deed_15 h_v0 (as := [.int v2]) rfl rfl ⟨rfl, rfl, Nat.le_of_ble_eq_true rfl, Nat.le_of_ble_eq_true rfl⟩ rfl (Nat.le_of_ble_eq_true rfl) ?_
    obtain ⟨g3, hf⟩ := gd_some hf
    refine G_iast h dX3_deed_18 ((w_2_2 hE h_v0).2) g3 (jx := (ix v2)) rfl rfl ?_
    refine G_iinc2 h dX3_deed_19 rfl ki_m1 (by decide) (L' := [some (.ref v0), some (.int v1), some (.int (v2 + (-1))), none, none]) rfl rfl ?_
    refine G_goto h dX3_deed_22 (tgt := 4) (by decide) ?_
    exact hk4 _ _ _ _ h_v0 hf
def f_X3_deed_L4 (E : Env1) : Nat → Mem → Nat → Int32 → Int32 → (Option (Int32 × Mem))
  | 0 => fun _ _ _ _ => none
  | n + 1 => b_X3_deed_L4 E (f_X3_deed_L4 E n)
theorem o_X3_deed_L4 {X : Ctx} {l0 : Launch} {E : Env1} (h : Cx X l0 E RX3 cX3_deed (some .int) 5 rm_X3_deed) (hE : WF E) {M' : Mem} {r : Int32} (hR : RetI X E cX3_deed r M') : ∀ (n : Nat) (M : Mem) (v0 : Nat) (v1 : Int32) (v2 : Int32), isK E v0 2 → f_X3_deed_L4 E n M v0 v1 v2 = some (r, M') → G X E (0, 0) 4 [some (.ref v0), some (.int v1), some (.int v2), none, none] [] M := by
  intro n
  induction n with
  | zero =>
    intro _ _ _ _ a0 hf
    have h0 : (none : Option (Int32 × Mem)) = some (r, M') := hf
    cases h0
  | succ n ih =>
    intro _ _ _ _ a0 hf
    exact ob_X3_deed_L4 h hE hR  ih a0 hf
def f_X3_deed (E : Env1) (M : Mem) (v0 : Nat) (v1 : Int32) : Option (Int32 × Mem) :=
  f_X3_deed_L4 E FU M v0 v1 (255 : Int32)
set_option maxRecDepth 100000 in
set_option maxHeartbeats 4000000 in
theorem ok_X3_deed {E : Env1} (hE : WF E) (l0 : Launch) {M : Mem} {M' : Mem} {v0 : Nat} {v1 : Int32} {r : Int32} (h0 : isK E v0 2) (hf : f_X3_deed E M v0 v1 = some (r, M')) : Met l0 yX3_deed (wsA yX3_deed cX3_deed 5 (some .int)) rm_X3_deed (CP E M [.ref v0, .int v1]) (CQi E r M') 0 0 (eA E) := by
  unfold f_X3_deed at hf
  refine mtI l0 (by decide +kernel) (Nat.le_of_ble_eq_true rfl) (L0 := [some (.ref v0), some (.int v1), none, none, none]) rfl (fun X h hR => ?_)
  refine G_sipush h dX3_deed_0 ks_255 rfl ?_
  refine G_istore_n h dX3_deed_3 (i := 2) rfl (by decide) (L' := [some (.ref v0), some (.int v1), some (.int (255 : Int32)), none, none]) rfl rfl ?_
  exact o_X3_deed_L4 h hE hR  FU _ _ _ _ h0 hf
def rm_X3_firstMinute : Room := { frames := 1, cells := 0, slots := 0, locals := 21 }
def b_X3_firstMinute_L6 (E : Env1) (M : Mem) (k6 : Nat → Int32 → Int32 → (Option (Int32))) (v0 : Nat) (v1 : Int32) (v3 : Int32) : Option (Int32) :=
  if (40 : Int32) ≤ v3 then (some (40 : Int32))
  else (
    gd v3 40 (if (((mi M (rr E v0 0) (ix v3)) >>> (v1 &&& 31)) &&& (1 : Int32)) = (1 : Int32) then (some v3)
    else (k6 v0 v1 (v3 + 1))))
set_option maxRecDepth 100000 in
set_option maxHeartbeats 4000000 in
theorem ob_X3_firstMinute_L6 {X : Ctx} {l0 : Launch} {E : Env1} (h : Cx X l0 E RX3 cX3_firstMinute (some .int) 4 rm_X3_firstMinute) (hE : WF E) {M : Mem} {r : Int32} (hR : RetI X E cX3_firstMinute r M) {k6 : Nat → Int32 → Int32 → (Option (Int32))} (hk6 : ∀ (v0 : Nat) (v1 : Int32) (v3 : Int32), isK E v0 2 → k6 v0 v1 v3 = some r → G X E (0, 0) 6 [some (.ref v0), some (.int v1), none, some (.int v3)] [] M) {v0 : Nat} {v1 : Int32} {v3 : Int32} (h_v0 : isK E v0 2) (hf : b_X3_firstMinute_L6 E M k6 v0 v1 v3 = some r) : G X E (0, 0) 6 [some (.ref v0), some (.int v1), none, some (.int v3)] [] M := by
  unfold b_X3_firstMinute_L6 at hf
  refine G_iload_n h dX3_firstMinute_6 (i := 3) rfl rfl rfl ?_
  refine G_bipush h dX3_firstMinute_7 kb_40 rfl ?_
  refine G_icmp_ge h dX3_firstMinute_9 (tgt := 34) (by decide) rfl (fun c1 => ?_) (fun c1 => ?_)
  · have hf := it_t c1 hf
    refine G_bipush h dX3_firstMinute_34 kb_40 rfl ?_
    exact roI hR dX3_firstMinute_36 hf
  · have hf := it_f c1 hf
    refine G_aload_n h dX3_firstMinute_12 (i := 0) rfl rfl rfl ?_
    refine gf_X3_11 h hE dX3_firstMinute_13 h_v0 rfl ?_
    refine G_iload_n h dX3_firstMinute_16 (i := 3) rfl rfl rfl ?_
    obtain ⟨g2, hf⟩ := gd_some hf
    refine G_iald h dX3_firstMinute_17 ((w_2_0 hE h_v0).2) g2 (jx := (ix v3)) rfl rfl ?_
    refine G_iload_n h dX3_firstMinute_18 (i := 1) rfl rfl rfl ?_
    refine G_ishr h dX3_firstMinute_19 rfl ?_
    refine G_iconst h dX3_firstMinute_20 ki_1 rfl ?_
    refine G_iand h dX3_firstMinute_21 rfl ?_
    refine G_iconst h dX3_firstMinute_22 ki_1 rfl ?_
    refine G_icmp_ne h dX3_firstMinute_23 (tgt := 28) (by decide) rfl (fun c3 => ?_) (fun c3 => ?_)
    · have hf := it_f c3 hf
      refine G_iinc2 h dX3_firstMinute_28 rfl ki_1 (by decide) (L' := [some (.ref v0), some (.int v1), none, some (.int (v3 + 1))]) rfl rfl ?_
      refine G_goto h dX3_firstMinute_31 (tgt := 6) (by decide) ?_
      exact hk6 _ _ _ h_v0 hf
    · have hf := it_t c3 hf
      refine G_iload_n h dX3_firstMinute_26 (i := 3) rfl rfl rfl ?_
      exact roI hR dX3_firstMinute_27 hf
def f_X3_firstMinute_L6 (E : Env1) (M : Mem) : Nat → Nat → Int32 → Int32 → (Option (Int32))
  | 0 => fun _ _ _ => none
  | n + 1 => b_X3_firstMinute_L6 E M (f_X3_firstMinute_L6 E M n)
theorem o_X3_firstMinute_L6 {X : Ctx} {l0 : Launch} {E : Env1} (h : Cx X l0 E RX3 cX3_firstMinute (some .int) 4 rm_X3_firstMinute) (hE : WF E) {M : Mem} {r : Int32} (hR : RetI X E cX3_firstMinute r M) : ∀ (n : Nat) (v0 : Nat) (v1 : Int32) (v3 : Int32), isK E v0 2 → f_X3_firstMinute_L6 E M n v0 v1 v3 = some r → G X E (0, 0) 6 [some (.ref v0), some (.int v1), none, some (.int v3)] [] M := by
  intro n
  induction n with
  | zero =>
    intro _ _ _ a0 hf
    have h0 : (none : Option (Int32)) = some r := hf
    cases h0
  | succ n ih =>
    intro _ _ _ a0 hf
    exact ob_X3_firstMinute_L6 h hE hR  ih a0 hf
def f_X3_firstMinute (E : Env1) (M : Mem) (v0 : Nat) (v1 : Int32) (v2 : Int32) : Option (Int32) :=
  f_X3_firstMinute_L6 E M FU v0 v1 (jmax v2 (0 : Int32))
set_option maxRecDepth 100000 in
set_option maxHeartbeats 4000000 in
theorem ok_X3_firstMinute {E : Env1} (hE : WF E) (l0 : Launch) {M : Mem} {v0 : Nat} {v1 : Int32} {v2 : Int32} {r : Int32} (h0 : isK E v0 2) (hf : f_X3_firstMinute E M v0 v1 v2 = some r) : Met l0 yX3_firstMinute (wsA yX3_firstMinute cX3_firstMinute 4 (some .int)) rm_X3_firstMinute (CP E M [.ref v0, .int v1, .int v2]) (CQi E r M) 0 0 (eA E) := by
  unfold f_X3_firstMinute at hf
  refine mtI l0 (by decide +kernel) (Nat.le_of_ble_eq_true rfl) (L0 := [some (.ref v0), some (.int v1), some (.int v2), none]) rfl (fun X h hR => ?_)
  refine G_iload_n h dX3_firstMinute_0 (i := 2) rfl rfl rfl ?_
  refine G_iconst h dX3_firstMinute_1 ki_0 rfl ?_
  refine cm_X3_61 h dX3_firstMinute_2 (Nat.le_of_ble_eq_true rfl) (Nat.le_of_ble_eq_true rfl) rfl ?_
  refine G_istore_n h dX3_firstMinute_5 (i := 3) rfl (by decide) (L' := [some (.ref v0), some (.int v1), some (.int v2), some (.int (jmax v2 (0 : Int32)))]) rfl rfl ?_
  refine G_mskL [true, true, false, true] (L' := [some (.ref v0), some (.int v1), none, some (.int (jmax v2 (0 : Int32)))]) rfl ?_
  exact o_X3_firstMinute_L6 h hE hR  FU _ _ _ h0 hf
def rm_X3_soonestOf : Room := { frames := 2, cells := 0, slots := 0, locals := 44 }
def b_X3_soonestOf_L13 (E : Env1) (M : Mem) (k13 : Nat → Int32 → Int32 → Int32 → (Option (Int32))) (v0 : Nat) (v1 : Int32) (v2 : Int32) (v3 : Int32) : Option (Int32) :=
  if (8 : Int32) ≤ v3 then (some v2)
  else (
    if ((v1 &&& (mi M v0 3)) &&& ((1 : Int32) <<< (v3 &&& 31))) = 0 then (k13 v0 v1 v2 (v3 + 1))
    else (
      gd (v1 ^^^ ((1 : Int32) <<< (v3 &&& 31))) 256 ((f_X3_firstMinute E M v0 v3 (mi M (rr E v0 1) (ix (v1 ^^^ ((1 : Int32) <<< (v3 &&& 31)))))).bind fun x4 =>
      k13 v0 v1 (jmin v2 (x4 + (1 : Int32))) (v3 + 1))))
set_option maxRecDepth 100000 in
set_option maxHeartbeats 4000000 in
theorem ob_X3_soonestOf_L13 {X : Ctx} {l0 : Launch} {E : Env1} (h : Cx X l0 E RX3 cX3_soonestOf (some .int) 5 rm_X3_soonestOf) (hE : WF E) {M : Mem} {r : Int32} (hR : RetI X E cX3_soonestOf r M) {k13 : Nat → Int32 → Int32 → Int32 → (Option (Int32))} (hk13 : ∀ (v0 : Nat) (v1 : Int32) (v2 : Int32) (v3 : Int32), isK E v0 2 → k13 v0 v1 v2 v3 = some r → G X E (0, 0) 13 [some (.ref v0), some (.int v1), some (.int v2), some (.int v3), none] [] M) {v0 : Nat} {v1 : Int32} {v2 : Int32} {v3 : Int32} (h_v0 : isK E v0 2) (hf : b_X3_soonestOf_L13 E M k13 v0 v1 v2 v3 = some r) : G X E (0, 0) 13 [some (.ref v0), some (.int v1), some (.int v2), some (.int v3), none] [] M := by
  unfold b_X3_soonestOf_L13 at hf
  refine G_iload_n h dX3_soonestOf_13 (i := 3) rfl rfl rfl ?_
  refine G_bipush h dX3_soonestOf_14 kb_8 rfl ?_
  refine G_icmp_ge h dX3_soonestOf_16 (tgt := 63) (by decide) rfl (fun c1 => ?_) (fun c1 => ?_)
  · have hf := it_t c1 hf
    refine G_iload_n h dX3_soonestOf_63 (i := 2) rfl rfl rfl ?_
    exact roI hR dX3_soonestOf_64 hf
  · have hf := it_f c1 hf
    refine G_iconst h dX3_soonestOf_19 ki_1 rfl ?_
    refine G_iload_n h dX3_soonestOf_20 (i := 3) rfl rfl rfl ?_
    refine G_ishl h dX3_soonestOf_21 rfl ?_
    refine G_istore h dX3_soonestOf_22  (by decide) (L' := [some (.ref v0), some (.int v1), some (.int v2), some (.int v3), some (.int ((1 : Int32) <<< (v3 &&& 31)))]) rfl rfl ?_
    refine G_iload_n h dX3_soonestOf_24 (i := 1) rfl rfl rfl ?_
    refine G_aload_n h dX3_soonestOf_25 (i := 0) rfl rfl rfl ?_
    refine gf_X3_21 h dX3_soonestOf_26 h_v0 rfl ?_
    refine G_iand h dX3_soonestOf_29 rfl ?_
    refine G_iload h dX3_soonestOf_30 rfl rfl ?_
    refine G_iand h dX3_soonestOf_32 rfl ?_
    refine G_if_eq h dX3_soonestOf_33 (tgt := 57) (by decide) rfl (fun c2 => ?_) (fun c2 => ?_)
    · have hf := it_t c2 hf
      refine G_iinc2 h dX3_soonestOf_57 rfl ki_1 (by decide) (L' := [some (.ref v0), some (.int v1), some (.int v2), some (.int (v3 + 1)), some (.int ((1 : Int32) <<< (v3 &&& 31)))]) rfl rfl ?_
      refine G_goto h dX3_soonestOf_60 (tgt := 13) (by decide) ?_
      refine G_mskL [true, true, true, true, false] (L' := [some (.ref v0), some (.int v1), some (.int v2), some (.int (v3 + 1)), none]) rfl ?_
      exact hk13 _ _ _ _ h_v0 hf
    · have hf := it_f c2 hf
      refine G_iload_n h dX3_soonestOf_36 (i := 2) rfl rfl rfl ?_
      refine G_aload_n h dX3_soonestOf_37 (i := 0) rfl rfl rfl ?_
      refine G_iload_n h dX3_soonestOf_38 (i := 3) rfl rfl rfl ?_
      refine G_aload_n h dX3_soonestOf_39 (i := 0) rfl rfl rfl ?_
      refine gf_X3_15 h hE dX3_soonestOf_40 h_v0 rfl ?_
      refine G_iload_n h dX3_soonestOf_43 (i := 1) rfl rfl rfl ?_
      refine G_iload h dX3_soonestOf_44 rfl rfl ?_
      refine G_ixor h dX3_soonestOf_46 rfl ?_
      obtain ⟨g3, hf⟩ := gd_some hf
      refine G_iald h dX3_soonestOf_47 ((w_2_1 hE h_v0).2) g3 (jx := (ix (v1 ^^^ ((1 : Int32) <<< (v3 &&& 31))))) rfl rfl ?_
      obtain ⟨x4, hx4, hf⟩ := bd hf
      refine cl_X3_53 h (ok_X3_firstMinute hE _ h_v0 hx4) dX3_soonestOf_48 h_v0 (as := [.int v3, .int (mi M (rr E v0 1) (ix (v1 ^^^ ((1 : Int32) <<< (v3 &&& 31)))))]) rfl rfl ⟨rfl, rfl, Nat.le_of_ble_eq_true rfl, Nat.le_of_ble_eq_true rfl⟩ rfl (Nat.le_of_ble_eq_true rfl) ?_
      refine G_iconst h dX3_soonestOf_51 ki_1 rfl ?_
      refine G_iadd h dX3_soonestOf_52 rfl ?_
      refine cm_X3_56 h dX3_soonestOf_53 (Nat.le_of_ble_eq_true rfl) (Nat.le_of_ble_eq_true rfl) rfl ?_
      refine G_istore_n h dX3_soonestOf_56 (i := 2) rfl (by decide) (L' := [some (.ref v0), some (.int v1), some (.int (jmin v2 (x4 + (1 : Int32)))), some (.int v3), some (.int ((1 : Int32) <<< (v3 &&& 31)))]) rfl rfl ?_
      refine G_iinc2 h dX3_soonestOf_57 rfl ki_1 (by decide) (L' := [some (.ref v0), some (.int v1), some (.int (jmin v2 (x4 + (1 : Int32)))), some (.int (v3 + 1)), some (.int ((1 : Int32) <<< (v3 &&& 31)))]) rfl rfl ?_
      refine G_goto h dX3_soonestOf_60 (tgt := 13) (by decide) ?_
      refine G_mskL [true, true, true, true, false] (L' := [some (.ref v0), some (.int v1), some (.int (jmin v2 (x4 + (1 : Int32)))), some (.int (v3 + 1)), none]) rfl ?_
      exact hk13 _ _ _ _ h_v0 hf
def f_X3_soonestOf_L13 (E : Env1) (M : Mem) : Nat → Nat → Int32 → Int32 → Int32 → (Option (Int32))
  | 0 => fun _ _ _ _ => none
  | n + 1 => b_X3_soonestOf_L13 E M (f_X3_soonestOf_L13 E M n)
theorem o_X3_soonestOf_L13 {X : Ctx} {l0 : Launch} {E : Env1} (h : Cx X l0 E RX3 cX3_soonestOf (some .int) 5 rm_X3_soonestOf) (hE : WF E) {M : Mem} {r : Int32} (hR : RetI X E cX3_soonestOf r M) : ∀ (n : Nat) (v0 : Nat) (v1 : Int32) (v2 : Int32) (v3 : Int32), isK E v0 2 → f_X3_soonestOf_L13 E M n v0 v1 v2 v3 = some r → G X E (0, 0) 13 [some (.ref v0), some (.int v1), some (.int v2), some (.int v3), none] [] M := by
  intro n
  induction n with
  | zero =>
    intro _ _ _ _ a0 hf
    have h0 : (none : Option (Int32)) = some r := hf
    cases h0
  | succ n ih =>
    intro _ _ _ _ a0 hf
    exact ob_X3_soonestOf_L13 h hE hR  ih a0 hf
def f_X3_soonestOf (E : Env1) (M : Mem) (v0 : Nat) (v1 : Int32) : Option (Int32) :=
  nm (if v1 = 0 then (0 : Int32) else (41 : Int32)) fun x2 =>
  f_X3_soonestOf_L13 E M FU v0 v1 x2 (0 : Int32)
set_option maxRecDepth 100000 in
set_option maxHeartbeats 4000000 in
theorem ok_X3_soonestOf {E : Env1} (hE : WF E) (l0 : Launch) {M : Mem} {v0 : Nat} {v1 : Int32} {r : Int32} (h0 : isK E v0 2) (hf : f_X3_soonestOf E M v0 v1 = some r) : Met l0 yX3_soonestOf (wsA yX3_soonestOf cX3_soonestOf 5 (some .int)) rm_X3_soonestOf (CP E M [.ref v0, .int v1]) (CQi E r M) 0 0 (eA E) := by
  unfold f_X3_soonestOf at hf
  refine mtI l0 (by decide +kernel) (Nat.le_of_ble_eq_true rfl) (L0 := [some (.ref v0), some (.int v1), none, none, none]) rfl (fun X h hR => ?_)
  refine G_iload_n h dX3_soonestOf_0 (i := 1) rfl rfl rfl ?_
  have hJ : G X E (0, 0) 10 [some (.ref v0), some (.int v1), none, none, none] [.int (if v1 = 0 then (0 : Int32) else (41 : Int32))] M := by
    refine G_nmi (fun x2 hx2 => ?_)
    have hf := nm_eq hx2 hf
    refine G_istore_n h dX3_soonestOf_10 (i := 2) rfl (by decide) (L' := [some (.ref v0), some (.int v1), some (.int x2), none, none]) rfl rfl ?_
    refine G_iconst h dX3_soonestOf_11 ki_0 rfl ?_
    refine G_istore_n h dX3_soonestOf_12 (i := 3) rfl (by decide) (L' := [some (.ref v0), some (.int v1), some (.int x2), some (.int (0 : Int32)), none]) rfl rfl ?_
    exact o_X3_soonestOf_L13 h hE hR  FU _ _ _ _ h0 hf
  refine G_if_ne h dX3_soonestOf_1 (tgt := 8) (by decide) rfl (fun c1 => ?_) (fun c1 => ?_)
  · refine G_bipush h dX3_soonestOf_8 kb_41 rfl ?_
    exact G_ifn c1 hJ
  · refine G_iconst h dX3_soonestOf_4 ki_0 rfl ?_
    refine G_goto h dX3_soonestOf_5 (tgt := 10) (by decide) ?_
    exact G_ifp c1 hJ
def rm_X3_make : Room := { frames := 5, cells := 0, slots := 0, locals := 120 }
def f_X3_make_L110 (E : Env1) (M : Mem) (v0 : Nat) (s0 : Int32) : Option (Int32 × Mem) :=
  some (mi (wi M v0 4 (if s0 = (41 : Int32) then (-1 : Int32) else s0)) v0 4, wi M v0 4 (if s0 = (41 : Int32) then (-1 : Int32) else s0))
set_option maxRecDepth 100000 in
set_option maxHeartbeats 4000000 in
theorem o_X3_make_L110 {X : Ctx} {l0 : Launch} {E : Env1} (h : Cx X l0 E RX3 cX3_make (some .int) 5 rm_X3_make) (hE : WF E) {M' : Mem} {r : Int32} (hR : RetI X E cX3_make r M') {M : Mem} {v0 : Nat} {s0 : Int32} (h_v0 : isK E v0 2) (hf : f_X3_make_L110 E M v0 s0 = some (r, M')) : G X E (0, 0) 110 [some (.ref v0), none, none, none, none] [.int s0] M := by
  unfold f_X3_make_L110 at hf
  refine G_istore h dX3_make_110  (by decide) (L' := [some (.ref v0), none, none, none, some (.int s0)]) rfl rfl ?_
  refine G_aload_n h dX3_make_112 (i := 0) rfl rfl rfl ?_
  refine G_iload h dX3_make_113 rfl rfl ?_
  refine G_bipush h dX3_make_115 kb_41 rfl ?_
  have hJ : G X E (0, 0) 126 [some (.ref v0), none, none, none, some (.int s0)] [.int (if s0 = (41 : Int32) then (-1 : Int32) else s0), .ref v0] M := by
    refine pf_X3_25 h dX3_make_126 h_v0 rfl ?_
    refine G_aload_n h dX3_make_129 (i := 0) rfl rfl rfl ?_
    refine gf_X3_25 h dX3_make_130 h_v0 rfl ?_
    exact pwI hR dX3_make_133 hf
  refine G_icmp_ne h dX3_make_117 (tgt := 124) (by decide) rfl (fun c1 => ?_) (fun c1 => ?_)
  · refine G_iload h dX3_make_124 rfl rfl ?_
    exact G_ifn c1 hJ
  · refine G_iconst h dX3_make_120 ki_m1 rfl ?_
    refine G_goto h dX3_make_121 (tgt := 126) (by decide) ?_
    exact G_ifp c1 hJ
def b_X3_make_L55 (E : Env1) (k55 : Mem → Nat → Int32 → (Option (Int32 × Mem))) (M : Mem) (v0 : Nat) (v4 : Int32) : Option (Int32 × Mem) :=
  if (256 : Int32) ≤ v4 then (
    if (f_X8_within E M (mi M v0 3) (0 : Int32) (255 : Int32)) = 0 then (f_X3_make_L110 E M v0 (41 : Int32))
    else (gd (mi M v0 3) 256 (f_X3_make_L110 E M v0 (mi M (rr E v0 1) (ix (mi M v0 3))))))
  else (
    (f_X3_soonestOf E M v0 v4).bind fun x5 =>
    gd v4 256 (k55 (wi M (rr E v0 1) (ix v4) x5) v0 (v4 + 1)))
set_option maxRecDepth 100000 in
set_option maxHeartbeats 4000000 in
theorem ob_X3_make_L55 {X : Ctx} {l0 : Launch} {E : Env1} (h : Cx X l0 E RX3 cX3_make (some .int) 5 rm_X3_make) (hE : WF E) {M' : Mem} {r : Int32} (hR : RetI X E cX3_make r M') {k55 : Mem → Nat → Int32 → (Option (Int32 × Mem))} (hk55 : ∀ (M : Mem) (v0 : Nat) (v4 : Int32), isK E v0 2 → k55 M v0 v4 = some (r, M') → G X E (0, 0) 55 [some (.ref v0), none, none, none, some (.int v4)] [] M) {M : Mem} {v0 : Nat} {v4 : Int32} (h_v0 : isK E v0 2) (hf : b_X3_make_L55 E k55 M v0 v4 = some (r, M')) : G X E (0, 0) 55 [some (.ref v0), none, none, none, some (.int v4)] [] M := by
  unfold b_X3_make_L55 at hf
  refine G_iload h dX3_make_55 rfl rfl ?_
  refine G_sipush h dX3_make_57 ks_256 rfl ?_
  refine G_icmp_ge h dX3_make_60 (tgt := 82) (by decide) rfl (fun c1 => ?_) (fun c1 => ?_)
  · have hf := it_t c1 hf
    refine G_aload_n h dX3_make_82 (i := 0) rfl rfl rfl ?_
    refine gf_X3_21 h dX3_make_83 h_v0 rfl ?_
    refine G_iconst h dX3_make_86 ki_0 rfl ?_
    refine G_sipush h dX3_make_87 ks_255 rfl ?_
    refine cl_X3_49 h (ok_X8_within hE _  (r := f_X8_within E M (mi M v0 3) (0 : Int32) (255 : Int32)) rfl) dX3_make_90 (as := [.int (mi M v0 3), .int (0 : Int32), .int (255 : Int32)]) rfl rfl ⟨rfl, rfl, Nat.le_of_ble_eq_true rfl, Nat.le_of_ble_eq_true rfl⟩ rfl (Nat.le_of_ble_eq_true rfl) (fun z2 => ?_)
    refine G_if_eq h dX3_make_93 (tgt := 108) (by decide) rfl (fun c3 => ?_) (fun c3 => ?_)
    · have hf := it_t c3 hf
      refine G_bipush h dX3_make_108 kb_41 rfl ?_
      refine G_mskL [true, false, false, false, false] (L' := [some (.ref v0), none, none, none, none]) rfl ?_
      exact o_X3_make_L110 h hE hR h_v0 hf
    · have hf := it_f c3 hf
      refine G_aload_n h dX3_make_96 (i := 0) rfl rfl rfl ?_
      refine gf_X3_15 h hE dX3_make_97 h_v0 rfl ?_
      refine G_aload_n h dX3_make_100 (i := 0) rfl rfl rfl ?_
      refine gf_X3_21 h dX3_make_101 h_v0 rfl ?_
      obtain ⟨g4, hf⟩ := gd_some hf
      refine G_iald h dX3_make_104 ((w_2_1 hE h_v0).2) g4 (jx := (ix (mi M v0 3))) rfl rfl ?_
      refine G_goto h dX3_make_105 (tgt := 110) (by decide) ?_
      refine G_mskL [true, false, false, false, false] (L' := [some (.ref v0), none, none, none, none]) rfl ?_
      exact o_X3_make_L110 h hE hR h_v0 hf
  · have hf := it_f c1 hf
    refine G_aload_n h dX3_make_63 (i := 0) rfl rfl rfl ?_
    refine gf_X3_15 h hE dX3_make_64 h_v0 rfl ?_
    refine G_iload h dX3_make_67 rfl rfl ?_
    refine G_aload_n h dX3_make_69 (i := 0) rfl rfl rfl ?_
    refine G_iload h dX3_make_70 rfl rfl ?_
    obtain ⟨x5, hx5, hf⟩ := bd hf
    refine cl_X3_45 h (ok_X3_soonestOf hE _ h_v0 hx5) dX3_make_72 h_v0 (as := [.int v4]) rfl rfl ⟨rfl, rfl, Nat.le_of_ble_eq_true rfl, Nat.le_of_ble_eq_true rfl⟩ rfl (Nat.le_of_ble_eq_true rfl) ?_
    obtain ⟨g6, hf⟩ := gd_some hf
    refine G_iast h dX3_make_75 ((w_2_1 hE h_v0).2) g6 (jx := (ix v4)) rfl rfl ?_
    refine G_iinc2 h dX3_make_76 rfl ki_1 (by decide) (L' := [some (.ref v0), none, none, none, some (.int (v4 + 1))]) rfl rfl ?_
    refine G_goto h dX3_make_79 (tgt := 55) (by decide) ?_
    exact hk55 _ _ _ h_v0 hf
def f_X3_make_L55 (E : Env1) : Nat → Mem → Nat → Int32 → (Option (Int32 × Mem))
  | 0 => fun _ _ _ => none
  | n + 1 => b_X3_make_L55 E (f_X3_make_L55 E n)
theorem o_X3_make_L55 {X : Ctx} {l0 : Launch} {E : Env1} (h : Cx X l0 E RX3 cX3_make (some .int) 5 rm_X3_make) (hE : WF E) {M' : Mem} {r : Int32} (hR : RetI X E cX3_make r M') : ∀ (n : Nat) (M : Mem) (v0 : Nat) (v4 : Int32), isK E v0 2 → f_X3_make_L55 E n M v0 v4 = some (r, M') → G X E (0, 0) 55 [some (.ref v0), none, none, none, some (.int v4)] [] M := by
  intro n
  induction n with
  | zero =>
    intro _ _ _ a0 hf
    have h0 : (none : Option (Int32 × Mem)) = some (r, M') := hf
    cases h0
  | succ n ih =>
    intro _ _ _ a0 hf
    exact ob_X3_make_L55 h hE hR  ih a0 hf
def b_X3_make_L13 (E : Env1) (k13 : Mem → Nat → Nat → Int32 → Int32 → (Option (Int32 × Mem))) (M : Mem) (v0 : Nat) (v1 : Nat) (v2 : Int32) (v4 : Int32) : Option (Int32 × Mem) :=
  if (40 : Int32) ≤ v4 then (f_X3_make_L55 E FU M v0 (0 : Int32))
  else (
    (f_X0_meetable E M v1 v2 (mi M v0 3) ((mi M (rr E v1 3) 4) + v4)).bind fun x2 =>
    gd v4 40 (k13 (wi M (rr E v0 0) (ix v4) x2) v0 v1 v2 (v4 + 1)))
set_option maxRecDepth 100000 in
set_option maxHeartbeats 4000000 in
theorem ob_X3_make_L13 {X : Ctx} {l0 : Launch} {E : Env1} (h : Cx X l0 E RX3 cX3_make (some .int) 5 rm_X3_make) (hE : WF E) {M' : Mem} {r : Int32} (hR : RetI X E cX3_make r M') {k13 : Mem → Nat → Nat → Int32 → Int32 → (Option (Int32 × Mem))} (hk13 : ∀ (M : Mem) (v0 : Nat) (v1 : Nat) (v2 : Int32) (v4 : Int32), isK E v0 2 → isK E v1 0 → k13 M v0 v1 v2 v4 = some (r, M') → G X E (0, 0) 13 [some (.ref v0), some (.ref v1), some (.int v2), none, some (.int v4)] [] M) {M : Mem} {v0 : Nat} {v1 : Nat} {v2 : Int32} {v4 : Int32} (h_v0 : isK E v0 2) (h_v1 : isK E v1 0) (hf : b_X3_make_L13 E k13 M v0 v1 v2 v4 = some (r, M')) : G X E (0, 0) 13 [some (.ref v0), some (.ref v1), some (.int v2), none, some (.int v4)] [] M := by
  unfold b_X3_make_L13 at hf
  refine G_iload h dX3_make_13 rfl rfl ?_
  refine G_bipush h dX3_make_15 kb_40 rfl ?_
  refine G_icmp_ge h dX3_make_17 (tgt := 52) (by decide) rfl (fun c1 => ?_) (fun c1 => ?_)
  · have hf := it_t c1 hf
    refine G_iconst h dX3_make_52 ki_0 rfl ?_
    refine G_istore h dX3_make_53  (by decide) (L' := [some (.ref v0), some (.ref v1), some (.int v2), none, some (.int (0 : Int32))]) rfl rfl ?_
    refine G_mskL [true, false, false, false, true] (L' := [some (.ref v0), none, none, none, some (.int (0 : Int32))]) rfl ?_
    exact o_X3_make_L55 h hE hR  FU _ _ _ h_v0 hf
  · have hf := it_f c1 hf
    refine G_aload_n h dX3_make_20 (i := 0) rfl rfl rfl ?_
    refine gf_X3_11 h hE dX3_make_21 h_v0 rfl ?_
    refine G_iload h dX3_make_24 rfl rfl ?_
    refine G_aload_n h dX3_make_26 (i := 1) rfl rfl rfl ?_
    refine G_iload_n h dX3_make_27 (i := 2) rfl rfl rfl ?_
    refine G_aload_n h dX3_make_28 (i := 0) rfl rfl rfl ?_
    refine gf_X3_21 h dX3_make_29 h_v0 rfl ?_
    refine G_aload_n h dX3_make_32 (i := 1) rfl rfl rfl ?_
    refine gf_X3_33 h hE dX3_make_33 h_v1 rfl ?_
    refine gf_X3_37 h dX3_make_36 ((w_0_3 hE h_v1).2) rfl ?_
    refine G_iload h dX3_make_39 rfl rfl ?_
    refine G_iadd h dX3_make_41 rfl ?_
    obtain ⟨x2, hx2, hf⟩ := bd hf
    refine cl_X3_42 h (ok_X0_meetable hE _ h_v1 hx2) dX3_make_42 h_v1 (as := [.int v2, .int (mi M v0 3), .int ((mi M (rr E v1 3) 4) + v4)]) rfl rfl ⟨rfl, rfl, Nat.le_of_ble_eq_true rfl, Nat.le_of_ble_eq_true rfl⟩ rfl (Nat.le_of_ble_eq_true rfl) ?_
    obtain ⟨g3, hf⟩ := gd_some hf
    refine G_iast h dX3_make_45 ((w_2_0 hE h_v0).2) g3 (jx := (ix v4)) rfl rfl ?_
    refine G_iinc2 h dX3_make_46 rfl ki_1 (by decide) (L' := [some (.ref v0), some (.ref v1), some (.int v2), none, some (.int (v4 + 1))]) rfl rfl ?_
    refine G_goto h dX3_make_49 (tgt := 13) (by decide) ?_
    exact hk13 _ _ _ _ _ h_v0 h_v1 hf
def f_X3_make_L13 (E : Env1) : Nat → Mem → Nat → Nat → Int32 → Int32 → (Option (Int32 × Mem))
  | 0 => fun _ _ _ _ _ => none
  | n + 1 => b_X3_make_L13 E (f_X3_make_L13 E n)
theorem o_X3_make_L13 {X : Ctx} {l0 : Launch} {E : Env1} (h : Cx X l0 E RX3 cX3_make (some .int) 5 rm_X3_make) (hE : WF E) {M' : Mem} {r : Int32} (hR : RetI X E cX3_make r M') : ∀ (n : Nat) (M : Mem) (v0 : Nat) (v1 : Nat) (v2 : Int32) (v4 : Int32), isK E v0 2 → isK E v1 0 → f_X3_make_L13 E n M v0 v1 v2 v4 = some (r, M') → G X E (0, 0) 13 [some (.ref v0), some (.ref v1), some (.int v2), none, some (.int v4)] [] M := by
  intro n
  induction n with
  | zero =>
    intro _ _ _ _ _ a0 a1 hf
    have h0 : (none : Option (Int32 × Mem)) = some (r, M') := hf
    cases h0
  | succ n ih =>
    intro _ _ _ _ _ a0 a1 hf
    exact ob_X3_make_L13 h hE hR  ih a0 a1 hf
def f_X3_make (E : Env1) (M : Mem) (v0 : Nat) (v1 : Nat) (v2 : Int32) (v3 : Int32) : Option (Int32 × Mem) :=
  (f_X0_lacking E M v1 v2 v3).bind fun x1 =>
  f_X3_make_L13 E FU (wi M v0 3 x1) v0 v1 v2 (0 : Int32)
set_option maxRecDepth 100000 in
set_option maxHeartbeats 4000000 in
theorem ok_X3_make {E : Env1} (hE : WF E) (l0 : Launch) {M : Mem} {M' : Mem} {v0 : Nat} {v1 : Nat} {v2 : Int32} {v3 : Int32} {r : Int32} (h0 : isK E v0 2) (h1 : isK E v1 0) (hf : f_X3_make E M v0 v1 v2 v3 = some (r, M')) : Met l0 yX3_make (wsA yX3_make cX3_make 5 (some .int)) rm_X3_make (CP E M [.ref v0, .ref v1, .int v2, .int v3]) (CQi E r M') 0 0 (eA E) := by
  unfold f_X3_make at hf
  refine mtI l0 (by decide +kernel) (Nat.le_of_ble_eq_true rfl) (L0 := [some (.ref v0), some (.ref v1), some (.int v2), some (.int v3), none]) rfl (fun X h hR => ?_)
  refine G_aload_n h dX3_make_0 (i := 0) rfl rfl rfl ?_
  refine G_aload_n h dX3_make_1 (i := 1) rfl rfl rfl ?_
  refine G_iload_n h dX3_make_2 (i := 2) rfl rfl rfl ?_
  refine G_iload_n h dX3_make_3 (i := 3) rfl rfl rfl ?_
  obtain ⟨x1, hx1, hf⟩ := bd hf
  refine cl_X3_28 h (ok_X0_lacking hE _ h1 hx1) dX3_make_4 h1 (as := [.int v2, .int v3]) rfl rfl ⟨rfl, rfl, Nat.le_of_ble_eq_true rfl, Nat.le_of_ble_eq_true rfl⟩ rfl (Nat.le_of_ble_eq_true rfl) ?_
  refine pf_X3_21 h dX3_make_7 h0 rfl ?_
  refine G_iconst h dX3_make_10 ki_0 rfl ?_
  refine G_istore h dX3_make_11  (by decide) (L' := [some (.ref v0), some (.ref v1), some (.int v2), some (.int v3), some (.int (0 : Int32))]) rfl rfl ?_
  refine G_mskL [true, true, true, false, true] (L' := [some (.ref v0), some (.ref v1), some (.int v2), none, some (.int (0 : Int32))]) rfl ?_
  exact o_X3_make_L13 h hE hR  FU _ _ _ _ _ h0 h1 hf
end
