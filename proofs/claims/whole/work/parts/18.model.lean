section
def rm_X9_in : Room := { frames := 0, cells := 0, slots := 0, locals := 0 }
def f_X9_in (E : Env1) (M : Mem) (v0 : Int32) (v1 : Int32) (v2 : Int32) : Int32 :=
  if v0 < v1 then (0 : Int32) else if v2 < v0 then (0 : Int32) else (1 : Int32)
set_option maxRecDepth 100000 in
set_option maxHeartbeats 4000000 in
theorem ok_X9_in {E : Env1} (hE : WF E) (l0 : Launch) {M : Mem} {v0 : Int32} {v1 : Int32} {v2 : Int32} {r : Int32}  (hf : f_X9_in E M v0 v1 v2 = r) : Met l0 yX9_in (wsA yX9_in cX9_in 3 (some .boolean)) rm_X9_in (CP E M [.int v0, .int v1, .int v2]) (CQz E r M) 0 0 (eA E) := by
  unfold f_X9_in at hf
  refine mtZ l0 (by decide +kernel) (Nat.le_of_ble_eq_true rfl) (L0 := [some (.int v0), some (.int v1), some (.int v2)]) rfl (fun X h hR => ?_)
  refine G_iload_n h dX9_in_0 (i := 0) rfl rfl rfl ?_
  refine G_iload_n h dX9_in_1 (i := 1) rfl rfl rfl ?_
  have hJ : G X E (0, 0) 15 [some (.int v0), some (.int v1), some (.int v2)] [.int (if v0 < v1 then (0 : Int32) else if v2 < v0 then (0 : Int32) else (1 : Int32))] M := by
    exact toZ hR dX9_in_15 (ite_01 (Or.inl rfl) (ite_01 (Or.inl rfl) (Or.inr rfl))) hf
  refine G_icmp_lt h dX9_in_2 (tgt := 14) (by decide) rfl (fun c1 => ?_) (fun c1 => ?_)
  · refine G_iconst h dX9_in_14 ki_0 rfl ?_
    exact G_ifp c1 hJ
  · refine G_iload_n h dX9_in_5 (i := 0) rfl rfl rfl ?_
    refine G_iload_n h dX9_in_6 (i := 2) rfl rfl rfl ?_
    refine G_icmp_gt h dX9_in_7 (tgt := 14) (by decide) rfl (fun c2 => ?_) (fun c2 => ?_)
    · refine G_iconst h dX9_in_14 ki_0 rfl ?_
      exact G_ifp c2 (G_ifn c1 hJ)
    · refine G_iconst h dX9_in_10 ki_1 rfl ?_
      refine G_goto h dX9_in_11 (tgt := 15) (by decide) ?_
      exact G_ifn c2 (G_ifn c1 hJ)
def rm_X9_isStep : Room := { frames := 1, cells := 0, slots := 0, locals := 22 }
def f_X9_isStep (E : Env1) (M : Mem) (v0 : Int32) : Int32 :=
  f_X9_in E M v0 (0 : Int32) (7 : Int32)
set_option maxRecDepth 100000 in
set_option maxHeartbeats 4000000 in
theorem ok_X9_isStep {E : Env1} (hE : WF E) (l0 : Launch) {M : Mem} {v0 : Int32} {r : Int32}  (hf : f_X9_isStep E M v0 = r) : Met l0 yX9_isStep (wsA yX9_isStep cX9_isStep 1 (some .boolean)) rm_X9_isStep (CP E M [.int v0]) (CQz E r M) 0 0 (eA E) := by
  unfold f_X9_isStep at hf
  refine mtZ l0 (by decide +kernel) (Nat.le_of_ble_eq_true rfl) (L0 := [some (.int v0)]) rfl (fun X h hR => ?_)
  refine G_iload_n h dX9_isStep_0 (i := 0) rfl rfl rfl ?_
  refine G_iconst h dX9_isStep_1 ki_0 rfl ?_
  refine G_bipush h dX9_isStep_2 kb_7 rfl ?_
  refine cl_X9_91 h (ok_X9_in hE _  (r := f_X9_in E M v0 (0 : Int32) (7 : Int32)) rfl) dX9_isStep_4 (as := [.int v0, .int (0 : Int32), .int (7 : Int32)]) rfl rfl ⟨rfl, rfl, Nat.le_of_ble_eq_true rfl, Nat.le_of_ble_eq_true rfl⟩ rfl (Nat.le_of_ble_eq_true rfl) (fun z1 => ?_)
  exact toZ hR dX9_isStep_7 z1 hf
def rm_X9_bad : Room := { frames := 0, cells := 0, slots := 0, locals := 0 }
def f_X9_bad (E : Env1) (M : Mem) (v0 : Nat) : Int32 × Mem :=
  ((-2 : Int32), wi M (rr E v0 0) 0 ((mi M (rr E v0 0) 0) + (1 : Int32)))
set_option maxRecDepth 100000 in
set_option maxHeartbeats 4000000 in
theorem ok_X9_bad {E : Env1} (hE : WF E) (l0 : Launch) {M : Mem} {M' : Mem} {v0 : Nat} {r : Int32} (h0 : isK E v0 8) (hf : f_X9_bad E M v0 = (r, M')) : Met l0 yX9_bad (wsA yX9_bad cX9_bad 1 (some .int)) rm_X9_bad (CP E M [.ref v0]) (CQi E r M') 0 0 (eA E) := by
  unfold f_X9_bad at hf
  refine mtI l0 (by decide +kernel) (Nat.le_of_ble_eq_true rfl) (L0 := [some (.ref v0)]) rfl (fun X h hR => ?_)
  refine G_aload_n h dX9_bad_0 (i := 0) rfl rfl rfl ?_
  refine gf_X9_1 h hE dX9_bad_1 h0 rfl ?_
  refine G_iconst h dX9_bad_4 ki_0 rfl ?_
  refine G_dup2 h dX9_bad_5 rfl rfl rfl ?_
  refine G_iald h dX9_bad_6 ((w_8_0 hE h0).2) (vi_lit (by decide)) (jx := 0) (by decide) rfl ?_
  refine G_iconst h dX9_bad_7 ki_1 rfl ?_
  refine G_iadd h dX9_bad_8 rfl ?_
  refine G_iast h dX9_bad_9 ((w_8_0 hE h0).2) (vi_lit (by decide)) (jx := 0) (by decide) rfl ?_
  refine G_bipush h dX9_bad_10 kb_m2 rfl ?_
  exact twI hR dX9_bad_12 hf
def rm_X9_has : Room := { frames := 0, cells := 0, slots := 0, locals := 0 }
def f_X9_has (E : Env1) (M : Mem) (v0 : Int32) (v1 : Int32) : Int32 :=
  if ((v0 >>> (v1 &&& 31)) &&& (1 : Int32)) = (1 : Int32) then (1 : Int32) else (0 : Int32)
set_option maxRecDepth 100000 in
set_option maxHeartbeats 4000000 in
theorem ok_X9_has {E : Env1} (hE : WF E) (l0 : Launch) {M : Mem} {v0 : Int32} {v1 : Int32} {r : Int32}  (hf : f_X9_has E M v0 v1 = r) : Met l0 yX9_has (wsA yX9_has cX9_has 2 (some .boolean)) rm_X9_has (CP E M [.int v0, .int v1]) (CQz E r M) 0 0 (eA E) := by
  unfold f_X9_has at hf
  refine mtZ l0 (by decide +kernel) (Nat.le_of_ble_eq_true rfl) (L0 := [some (.int v0), some (.int v1)]) rfl (fun X h hR => ?_)
  refine G_iload_n h dX9_has_0 (i := 0) rfl rfl rfl ?_
  refine G_iload_n h dX9_has_1 (i := 1) rfl rfl rfl ?_
  refine G_ishr h dX9_has_2 rfl ?_
  refine G_iconst h dX9_has_3 ki_1 rfl ?_
  refine G_iand h dX9_has_4 rfl ?_
  refine G_iconst h dX9_has_5 ki_1 rfl ?_
  have hJ : G X E (0, 0) 14 [some (.int v0), some (.int v1)] [.int (if ((v0 >>> (v1 &&& 31)) &&& (1 : Int32)) = (1 : Int32) then (1 : Int32) else (0 : Int32))] M := by
    exact toZ hR dX9_has_14 (ite_01 (Or.inr rfl) (Or.inl rfl)) hf
  refine G_icmp_ne h dX9_has_6 (tgt := 13) (by decide) rfl (fun c1 => ?_) (fun c1 => ?_)
  · refine G_iconst h dX9_has_13 ki_0 rfl ?_
    exact G_ifn c1 hJ
  · refine G_iconst h dX9_has_9 ki_1 rfl ?_
    refine G_goto h dX9_has_10 (tgt := 14) (by decide) ?_
    exact G_ifp c1 hJ
def rm_X9_whoKnows : Room := { frames := 1, cells := 0, slots := 0, locals := 21 }
def b_X9_whoKnows_L4 (E : Env1) (M : Mem) (k4 : Nat → Int32 → Int32 → Int32 → (Option (Int32))) (v0 : Nat) (v1 : Int32) (v2 : Int32) (v3 : Int32) : Option (Int32) :=
  if (mi M v0 1) ≤ v3 then (some v2)
  else (
    gd v3 6 (nm (v2 ||| (if (f_X9_has E M (mi M (rr E v0 10) (ix v3)) v1) = 0 then (0 : Int32) else (1 : Int32) <<< (v3 &&& 31))) fun x5 =>
    k4 v0 v1 x5 (v3 + 1)))
set_option maxRecDepth 100000 in
set_option maxHeartbeats 4000000 in
theorem ob_X9_whoKnows_L4 {X : Ctx} {l0 : Launch} {E : Env1} (h : Cx X l0 E RX9 cX9_whoKnows (some .int) 4 rm_X9_whoKnows) (hE : WF E) {M : Mem} {r : Int32} (hR : RetI X E cX9_whoKnows r M) {k4 : Nat → Int32 → Int32 → Int32 → (Option (Int32))} (hk4 : ∀ (v0 : Nat) (v1 : Int32) (v2 : Int32) (v3 : Int32), isK E v0 8 → k4 v0 v1 v2 v3 = some r → G X E (0, 0) 4 [some (.ref v0), some (.int v1), some (.int v2), some (.int v3)] [] M) {v0 : Nat} {v1 : Int32} {v2 : Int32} {v3 : Int32} (h_v0 : isK E v0 8) (hf : b_X9_whoKnows_L4 E M k4 v0 v1 v2 v3 = some r) : G X E (0, 0) 4 [some (.ref v0), some (.int v1), some (.int v2), some (.int v3)] [] M := by
  unfold b_X9_whoKnows_L4 at hf
  refine G_iload_n h dX9_whoKnows_4 (i := 3) rfl rfl rfl ?_
  refine G_aload_n h dX9_whoKnows_5 (i := 0) rfl rfl rfl ?_
  refine gf_X9_69 h dX9_whoKnows_6 h_v0 rfl ?_
  refine G_icmp_ge h dX9_whoKnows_9 (tgt := 41) (by decide) rfl (fun c1 => ?_) (fun c1 => ?_)
  · have hf := it_t c1 hf
    refine G_iload_n h dX9_whoKnows_41 (i := 2) rfl rfl rfl ?_
    exact roI hR dX9_whoKnows_42 hf
  · have hf := it_f c1 hf
    refine G_iload_n h dX9_whoKnows_12 (i := 2) rfl rfl rfl ?_
    refine G_aload_n h dX9_whoKnows_13 (i := 0) rfl rfl rfl ?_
    refine gf_X9_22 h hE dX9_whoKnows_14 h_v0 rfl ?_
    refine G_iload_n h dX9_whoKnows_17 (i := 3) rfl rfl rfl ?_
    obtain ⟨g2, hf⟩ := gd_some hf
    refine G_iald h dX9_whoKnows_18 ((w_8_10 hE h_v0).2) g2 (jx := (ix v3)) rfl rfl ?_
    refine G_iload_n h dX9_whoKnows_19 (i := 1) rfl rfl rfl ?_
    refine cl_X9_189 h (ok_X9_has hE _  (r := f_X9_has E M (mi M (rr E v0 10) (ix v3)) v1) rfl) dX9_whoKnows_20 (as := [.int (mi M (rr E v0 10) (ix v3)), .int v1]) rfl rfl ⟨rfl, rfl, Nat.le_of_ble_eq_true rfl, Nat.le_of_ble_eq_true rfl⟩ rfl (Nat.le_of_ble_eq_true rfl) (fun z3 => ?_)
    have hJ : G X E (0, 0) 33 [some (.ref v0), some (.int v1), some (.int v2), some (.int v3)] [.int (if (f_X9_has E M (mi M (rr E v0 10) (ix v3)) v1) = 0 then (0 : Int32) else (1 : Int32) <<< (v3 &&& 31)), .int v2] M := by
      refine G_ior h dX9_whoKnows_33 rfl ?_
      refine G_nmi (fun x5 hx5 => ?_)
      have hf := nm_eq hx5 hf
      refine G_istore_n h dX9_whoKnows_34 (i := 2) rfl (by decide) (L' := [some (.ref v0), some (.int v1), some (.int x5), some (.int v3)]) rfl rfl ?_
      refine G_iinc2 h dX9_whoKnows_35 rfl ki_1 (by decide) (L' := [some (.ref v0), some (.int v1), some (.int x5), some (.int (v3 + 1))]) rfl rfl ?_
      refine G_goto h dX9_whoKnows_38 (tgt := 4) (by decide) ?_
      exact hk4 _ _ _ _ h_v0 hf
    refine G_if_eq h dX9_whoKnows_23 (tgt := 32) (by decide) rfl (fun c4 => ?_) (fun c4 => ?_)
    · refine G_iconst h dX9_whoKnows_32 ki_0 rfl ?_
      exact G_ifp c4 hJ
    · refine G_iconst h dX9_whoKnows_26 ki_1 rfl ?_
      refine G_iload_n h dX9_whoKnows_27 (i := 3) rfl rfl rfl ?_
      refine G_ishl h dX9_whoKnows_28 rfl ?_
      refine G_goto h dX9_whoKnows_29 (tgt := 33) (by decide) ?_
      exact G_ifn c4 hJ
def f_X9_whoKnows_L4 (E : Env1) (M : Mem) : Nat → Nat → Int32 → Int32 → Int32 → (Option (Int32))
  | 0 => fun _ _ _ _ => none
  | n + 1 => b_X9_whoKnows_L4 E M (f_X9_whoKnows_L4 E M n)
theorem o_X9_whoKnows_L4 {X : Ctx} {l0 : Launch} {E : Env1} (h : Cx X l0 E RX9 cX9_whoKnows (some .int) 4 rm_X9_whoKnows) (hE : WF E) {M : Mem} {r : Int32} (hR : RetI X E cX9_whoKnows r M) : ∀ (n : Nat) (v0 : Nat) (v1 : Int32) (v2 : Int32) (v3 : Int32), isK E v0 8 → f_X9_whoKnows_L4 E M n v0 v1 v2 v3 = some r → G X E (0, 0) 4 [some (.ref v0), some (.int v1), some (.int v2), some (.int v3)] [] M := by
  intro n
  induction n with
  | zero =>
    intro _ _ _ _ a0 hf
    have h0 : (none : Option (Int32)) = some r := hf
    cases h0
  | succ n ih =>
    intro _ _ _ _ a0 hf
    exact ob_X9_whoKnows_L4 h hE hR  ih a0 hf
def f_X9_whoKnows (E : Env1) (M : Mem) (v0 : Nat) (v1 : Int32) : Option (Int32) :=
  f_X9_whoKnows_L4 E M FU v0 v1 (0 : Int32) (0 : Int32)
set_option maxRecDepth 100000 in
set_option maxHeartbeats 4000000 in
theorem ok_X9_whoKnows {E : Env1} (hE : WF E) (l0 : Launch) {M : Mem} {v0 : Nat} {v1 : Int32} {r : Int32} (h0 : isK E v0 8) (hf : f_X9_whoKnows E M v0 v1 = some r) : Met l0 yX9_whoKnows (wsA yX9_whoKnows cX9_whoKnows 4 (some .int)) rm_X9_whoKnows (CP E M [.ref v0, .int v1]) (CQi E r M) 0 0 (eA E) := by
  unfold f_X9_whoKnows at hf
  refine mtI l0 (by decide +kernel) (Nat.le_of_ble_eq_true rfl) (L0 := [some (.ref v0), some (.int v1), none, none]) rfl (fun X h hR => ?_)
  refine G_iconst h dX9_whoKnows_0 ki_0 rfl ?_
  refine G_istore_n h dX9_whoKnows_1 (i := 2) rfl (by decide) (L' := [some (.ref v0), some (.int v1), some (.int (0 : Int32)), none]) rfl rfl ?_
  refine G_iconst h dX9_whoKnows_2 ki_0 rfl ?_
  refine G_istore_n h dX9_whoKnows_3 (i := 3) rfl (by decide) (L' := [some (.ref v0), some (.int v1), some (.int (0 : Int32)), some (.int (0 : Int32))]) rfl rfl ?_
  exact o_X9_whoKnows_L4 h hE hR  FU _ _ _ _ h0 hf
def rm_X9_about : Room := { frames := 2, cells := 0, slots := 0, locals := 44 }
def f_X9_about (E : Env1) (M : Mem) (v0 : Nat) (v1 : Int32) (v2 : Int32) : Option (Int32 × Mem) :=
  if (f_X9_isStep E M v1) = 0 then (
    nm (f_X9_bad E M v0) fun x3 =>
    some (x3.1, x3.2))
  else (
    if (f_X9_in E M v2 (0 : Int32) (2 : Int32)) = 0 then (
      nm (f_X9_bad E M v0) fun x10 =>
      some (x10.1, x10.2))
    else (
      if v2 = 0 then (gd v1 8 (some (mi M (rr E v0 11) (ix v1), M)))
      else (
        if v2 = (1 : Int32) then (
          (f_X9_whoKnows E M v0 v1).bind fun x8 =>
          some (x8, M))
        else (some (((mi M v0 3) >>> (v1 &&& 31)) &&& (1 : Int32), M)))))
set_option maxRecDepth 100000 in
set_option maxHeartbeats 4000000 in
theorem ok_X9_about {E : Env1} (hE : WF E) (l0 : Launch) {M : Mem} {M' : Mem} {v0 : Nat} {v1 : Int32} {v2 : Int32} {r : Int32} (h0 : isK E v0 8) (hf : f_X9_about E M v0 v1 v2 = some (r, M')) : Met l0 yX9_about (wsA yX9_about cX9_about 3 (some .int)) rm_X9_about (CP E M [.ref v0, .int v1, .int v2]) (CQi E r M') 0 0 (eA E) := by
  unfold f_X9_about at hf
  refine mtI l0 (by decide +kernel) (Nat.le_of_ble_eq_true rfl) (L0 := [some (.ref v0), some (.int v1), some (.int v2)]) rfl (fun X h hR => ?_)
  refine G_iload_n h dX9_about_0 (i := 1) rfl rfl rfl ?_
  refine cl_X9_219 h (ok_X9_isStep hE _  (r := f_X9_isStep E M v1) rfl) dX9_about_1 (as := [.int v1]) rfl rfl ⟨rfl, rfl, Nat.le_of_ble_eq_true rfl, Nat.le_of_ble_eq_true rfl⟩ rfl (Nat.le_of_ble_eq_true rfl) (fun z1 => ?_)
  refine G_if_eq h dX9_about_4 (tgt := 16) (by decide) rfl (fun c2 => ?_) (fun c2 => ?_)
  · have hf := it_t c2 hf
    refine G_aload_n h dX9_about_16 (i := 0) rfl rfl rfl ?_
    obtain ⟨x3, hx3⟩ : ∃ x, x = f_X9_bad E M v0 := ⟨_, rfl⟩
    have hf := nm_eq hx3 hf
    refine cl_X9_95 h (ok_X9_bad hE _ h0 hx3.symm) dX9_about_17 h0 (as := []) rfl rfl ⟨rfl, rfl, Nat.le_of_ble_eq_true rfl, Nat.le_of_ble_eq_true rfl⟩ rfl (Nat.le_of_ble_eq_true rfl) ?_
    exact pwI hR dX9_about_20 hf
  · have hf := it_f c2 hf
    refine G_iload_n h dX9_about_7 (i := 2) rfl rfl rfl ?_
    refine G_iconst h dX9_about_8 ki_0 rfl ?_
    refine G_iconst h dX9_about_9 ki_2 rfl ?_
    refine cl_X9_91 h (ok_X9_in hE _  (r := f_X9_in E M v2 (0 : Int32) (2 : Int32)) rfl) dX9_about_10 (as := [.int v2, .int (0 : Int32), .int (2 : Int32)]) rfl rfl ⟨rfl, rfl, Nat.le_of_ble_eq_true rfl, Nat.le_of_ble_eq_true rfl⟩ rfl (Nat.le_of_ble_eq_true rfl) (fun z4 => ?_)
    refine G_if_ne h dX9_about_13 (tgt := 21) (by decide) rfl (fun c5 => ?_) (fun c5 => ?_)
    · have hf := it_f c5 hf
      refine G_iload_n h dX9_about_21 (i := 2) rfl rfl rfl ?_
      refine G_if_ne h dX9_about_22 (tgt := 34) (by decide) rfl (fun c6 => ?_) (fun c6 => ?_)
      · have hf := it_f c6 hf
        refine G_iload_n h dX9_about_34 (i := 2) rfl rfl rfl ?_
        refine G_iconst h dX9_about_35 ki_1 rfl ?_
        refine G_icmp_ne h dX9_about_36 (tgt := 47) (by decide) rfl (fun c7 => ?_) (fun c7 => ?_)
        · have hf := it_f c7 hf
          refine G_aload_n h dX9_about_47 (i := 0) rfl rfl rfl ?_
          refine gf_X9_76 h dX9_about_48 h0 rfl ?_
          refine G_iload_n h dX9_about_51 (i := 1) rfl rfl rfl ?_
          refine G_ishr h dX9_about_52 rfl ?_
          refine G_iconst h dX9_about_53 ki_1 rfl ?_
          refine G_iand h dX9_about_54 rfl ?_
          exact pwI hR dX9_about_55 hf
        · have hf := it_t c7 hf
          refine G_aload_n h dX9_about_39 (i := 0) rfl rfl rfl ?_
          refine G_iload_n h dX9_about_40 (i := 1) rfl rfl rfl ?_
          obtain ⟨x8, hx8, hf⟩ := bd hf
          refine cl_X9_238 h (ok_X9_whoKnows hE _ h0 hx8) dX9_about_41 h0 (as := [.int v1]) rfl rfl ⟨rfl, rfl, Nat.le_of_ble_eq_true rfl, Nat.le_of_ble_eq_true rfl⟩ rfl (Nat.le_of_ble_eq_true rfl) ?_
          refine G_goto h dX9_about_44 (tgt := 55) (by decide) ?_
          exact pwI hR dX9_about_55 hf
      · have hf := it_t c6 hf
        refine G_aload_n h dX9_about_25 (i := 0) rfl rfl rfl ?_
        refine gf_X9_25 h hE dX9_about_26 h0 rfl ?_
        refine G_iload_n h dX9_about_29 (i := 1) rfl rfl rfl ?_
        obtain ⟨g9, hf⟩ := gd_some hf
        refine G_iald h dX9_about_30 ((w_8_11 hE h0).2) g9 (jx := (ix v1)) rfl rfl ?_
        refine G_goto h dX9_about_31 (tgt := 55) (by decide) ?_
        exact pwI hR dX9_about_55 hf
    · have hf := it_t c5 hf
      refine G_aload_n h dX9_about_16 (i := 0) rfl rfl rfl ?_
      obtain ⟨x10, hx10⟩ : ∃ x, x = f_X9_bad E M v0 := ⟨_, rfl⟩
      have hf := nm_eq hx10 hf
      refine cl_X9_95 h (ok_X9_bad hE _ h0 hx10.symm) dX9_about_17 h0 (as := []) rfl rfl ⟨rfl, rfl, Nat.le_of_ble_eq_true rfl, Nat.le_of_ble_eq_true rfl⟩ rfl (Nat.le_of_ble_eq_true rfl) ?_
      exact pwI hR dX9_about_20 hf
def rm_X9_addOne : Room := { frames := 0, cells := 0, slots := 0, locals := 0 }
def f_X9_addOne (E : Env1) (M : Mem) (v0 : Nat) (v1 : Int32) (v2 : Int32) : Option (Int32 × Mem) :=
  gd (mi M v0 1) 6 (gd (mi (wi M (rr E v0 7) (ix (mi M v0 1)) v1) v0 1) 6 (nm (wi (wi M (rr E v0 7) (ix (mi M v0 1)) v1) (rr E v0 8) (ix (mi (wi M (rr E v0 7) (ix (mi M v0 1)) v1) v0 1)) v2) fun M3 =>
  gd (mi M3 v0 1) 6 (gd (mi (wi M3 (rr E v0 9) (ix (mi M3 v0 1)) (-1 : Int32)) v0 1) 6 (nm (wi (wi M3 (rr E v0 9) (ix (mi M3 v0 1)) (-1 : Int32)) (rr E v0 10) (ix (mi (wi M3 (rr E v0 9) (ix (mi M3 v0 1)) (-1 : Int32)) v0 1)) (0 : Int32)) fun M6 =>
  some ((mi (wi (wi M6 v0 1 ((mi M6 v0 1) + (1 : Int32))) v0 21 (0 : Int32)) v0 1) - (1 : Int32), wi (wi M6 v0 1 ((mi M6 v0 1) + (1 : Int32))) v0 21 (0 : Int32))))))
set_option maxRecDepth 100000 in
set_option maxHeartbeats 4000000 in
theorem ok_X9_addOne {E : Env1} (hE : WF E) (l0 : Launch) {M : Mem} {M' : Mem} {v0 : Nat} {v1 : Int32} {v2 : Int32} {r : Int32} (h0 : isK E v0 8) (hf : f_X9_addOne E M v0 v1 v2 = some (r, M')) : Met l0 yX9_addOne (wsA yX9_addOne cX9_addOne 3 (some .int)) rm_X9_addOne (CP E M [.ref v0, .int v1, .int v2]) (CQi E r M') 0 0 (eA E) := by
  unfold f_X9_addOne at hf
  refine mtI l0 (by decide +kernel) (Nat.le_of_ble_eq_true rfl) (L0 := [some (.ref v0), some (.int v1), some (.int v2)]) rfl (fun X h hR => ?_)
  refine G_aload_n h dX9_addOne_0 (i := 0) rfl rfl rfl ?_
  refine gf_X9_13 h hE dX9_addOne_1 h0 rfl ?_
  refine G_aload_n h dX9_addOne_4 (i := 0) rfl rfl rfl ?_
  refine gf_X9_69 h dX9_addOne_5 h0 rfl ?_
  refine G_iload_n h dX9_addOne_8 (i := 1) rfl rfl rfl ?_
  obtain ⟨g1, hf⟩ := gd_some hf
  refine G_iast h dX9_addOne_9 ((w_8_7 hE h0).2) g1 (jx := (ix (mi M v0 1))) rfl rfl ?_
  refine G_aload_n h dX9_addOne_10 (i := 0) rfl rfl rfl ?_
  refine gf_X9_16 h hE dX9_addOne_11 h0 rfl ?_
  refine G_aload_n h dX9_addOne_14 (i := 0) rfl rfl rfl ?_
  refine gf_X9_69 h dX9_addOne_15 h0 rfl ?_
  refine G_iload_n h dX9_addOne_18 (i := 2) rfl rfl rfl ?_
  obtain ⟨g2, hf⟩ := gd_some hf
  refine G_iast h dX9_addOne_19 ((w_8_8 hE h0).2) g2 (jx := (ix (mi (wi M (rr E v0 7) (ix (mi M v0 1)) v1) v0 1))) rfl rfl ?_
  refine G_nmM (fun M3 hM3 => ?_)
  have hf := nm_eq hM3 hf
  refine G_aload_n h dX9_addOne_20 (i := 0) rfl rfl rfl ?_
  refine gf_X9_19 h hE dX9_addOne_21 h0 rfl ?_
  refine G_aload_n h dX9_addOne_24 (i := 0) rfl rfl rfl ?_
  refine gf_X9_69 h dX9_addOne_25 h0 rfl ?_
  refine G_iconst h dX9_addOne_28 ki_m1 rfl ?_
  obtain ⟨g4, hf⟩ := gd_some hf
  refine G_iast h dX9_addOne_29 ((w_8_9 hE h0).2) g4 (jx := (ix (mi M3 v0 1))) rfl rfl ?_
  refine G_aload_n h dX9_addOne_30 (i := 0) rfl rfl rfl ?_
  refine gf_X9_22 h hE dX9_addOne_31 h0 rfl ?_
  refine G_aload_n h dX9_addOne_34 (i := 0) rfl rfl rfl ?_
  refine gf_X9_69 h dX9_addOne_35 h0 rfl ?_
  refine G_iconst h dX9_addOne_38 ki_0 rfl ?_
  obtain ⟨g5, hf⟩ := gd_some hf
  refine G_iast h dX9_addOne_39 ((w_8_10 hE h0).2) g5 (jx := (ix (mi (wi M3 (rr E v0 9) (ix (mi M3 v0 1)) (-1 : Int32)) v0 1))) rfl rfl ?_
  refine G_nmM (fun M6 hM6 => ?_)
  have hf := nm_eq hM6 hf
  refine G_aload_n h dX9_addOne_40 (i := 0) rfl rfl rfl ?_
  refine G_dup h dX9_addOne_41 rfl rfl ?_
  refine gf_X9_69 h dX9_addOne_42 h0 rfl ?_
  refine G_iconst h dX9_addOne_45 ki_1 rfl ?_
  refine G_iadd h dX9_addOne_46 rfl ?_
  refine pf_X9_69 h dX9_addOne_47 h0 rfl ?_
  refine G_aload_n h dX9_addOne_50 (i := 0) rfl rfl rfl ?_
  refine G_iconst h dX9_addOne_51 ki_0 rfl ?_
  refine pf_X9_88 h dX9_addOne_52 h0 rfl ?_
  refine G_aload_n h dX9_addOne_55 (i := 0) rfl rfl rfl ?_
  refine gf_X9_69 h dX9_addOne_56 h0 rfl ?_
  refine G_iconst h dX9_addOne_59 ki_1 rfl ?_
  refine G_isub h dX9_addOne_60 rfl ?_
  exact pwI hR dX9_addOne_61 hf
def rm_X9_lesser : Room := { frames := 0, cells := 0, slots := 0, locals := 0 }
def f_X9_lesser (E : Env1) (M : Mem) (v0 : Int32) (v1 : Int32) : Int32 :=
  if v1 ≤ v0 then v1 else v0
set_option maxRecDepth 100000 in
set_option maxHeartbeats 4000000 in
theorem ok_X9_lesser {E : Env1} (hE : WF E) (l0 : Launch) {M : Mem} {v0 : Int32} {v1 : Int32} {r : Int32}  (hf : f_X9_lesser E M v0 v1 = r) : Met l0 yX9_lesser (wsA yX9_lesser cX9_lesser 2 (some .int)) rm_X9_lesser (CP E M [.int v0, .int v1]) (CQi E r M) 0 0 (eA E) := by
  unfold f_X9_lesser at hf
  refine mtI l0 (by decide +kernel) (Nat.le_of_ble_eq_true rfl) (L0 := [some (.int v0), some (.int v1)]) rfl (fun X h hR => ?_)
  refine G_iload_n h dX9_lesser_0 (i := 0) rfl rfl rfl ?_
  refine G_iload_n h dX9_lesser_1 (i := 1) rfl rfl rfl ?_
  have hJ : G X E (0, 0) 10 [some (.int v0), some (.int v1)] [.int (if v1 ≤ v0 then v1 else v0)] M := by
    exact toI hR dX9_lesser_10 hf
  refine G_icmp_ge h dX9_lesser_2 (tgt := 9) (by decide) rfl (fun c1 => ?_) (fun c1 => ?_)
  · refine G_iload_n h dX9_lesser_9 (i := 1) rfl rfl rfl ?_
    exact G_ifp c1 hJ
  · refine G_iload_n h dX9_lesser_5 (i := 0) rfl rfl rfl ?_
    refine G_goto h dX9_lesser_6 (tgt := 10) (by decide) ?_
    exact G_ifn c1 hJ
def rm_X9_wantsBy : Room := { frames := 1, cells := 0, slots := 0, locals := 21 }
def f_X9_wantsBy (E : Env1) (M : Mem) (v0 : Int32) (v1 : Int32) (v2 : Int32) : Int32 :=
  nm ((1 : Int32) + (v1 / (4 : Int32))) fun x1 =>
  if v0 = 1 then (2 : Int32)
  else if v0 = 2 then x1
  else if v0 = 3 then (
    if (v2 - v2 / (2 : Int32) * (2 : Int32)) = (1 : Int32) then (4 : Int32) else (2 : Int32))
  else if v0 = 4 then (
    if (5 : Int32) < v1 then (1 : Int32) else (0 : Int32))
  else if v0 = 5 then (f_X9_lesser E M (5 : Int32) ((2 : Int32) * x1))
  else (1 : Int32)
set_option maxRecDepth 100000 in
set_option maxHeartbeats 4000000 in
theorem ok_X9_wantsBy {E : Env1} (hE : WF E) (l0 : Launch) {M : Mem} {v0 : Int32} {v1 : Int32} {v2 : Int32} {r : Int32}  (hf : f_X9_wantsBy E M v0 v1 v2 = r) : Met l0 yX9_wantsBy (wsA yX9_wantsBy cX9_wantsBy 4 (some .int)) rm_X9_wantsBy (CP E M [.int v0, .int v1, .int v2]) (CQi E r M) 0 0 (eA E) := by
  unfold f_X9_wantsBy at hf
  refine mtI l0 (by decide +kernel) (Nat.le_of_ble_eq_true rfl) (L0 := [some (.int v0), some (.int v1), some (.int v2), none]) rfl (fun X h hR => ?_)
  refine G_iconst h dX9_wantsBy_0 ki_1 rfl ?_
  refine G_iload_n h dX9_wantsBy_1 (i := 1) rfl rfl rfl ?_
  refine G_iconst h dX9_wantsBy_2 ki_4 rfl ?_
  refine G_idiv h dX9_wantsBy_3 (by decide) rfl ?_
  refine G_iadd h dX9_wantsBy_4 rfl ?_
  refine G_nmi (fun x1 hx1 => ?_)
  have hf := nm_eq hx1 hf
  refine G_istore_n h dX9_wantsBy_5 (i := 3) rfl (by decide) (L' := [some (.int v0), some (.int v1), some (.int v2), some (.int x1)]) rfl rfl ?_
  refine G_iload_n h dX9_wantsBy_6 (i := 0) rfl rfl rfl ?_
  by_cases c2 : v0 = 1
  · have hf := it_t c2 hf
    refine G_tsIn h dX9_wantsBy_7 c2 (v := 1) (j := 0) (by decide) (by decide) rfl (tgt := 40) (by decide) ?_
    refine G_iconst h dX9_wantsBy_40 ki_2 rfl ?_
    exact toI hR dX9_wantsBy_41 hf
  have hf := it_f c2 hf
  by_cases c3 : v0 = 2
  · have hf := it_t c3 hf
    refine G_tsIn h dX9_wantsBy_7 c3 (v := 2) (j := 1) (by decide) (by decide) rfl (tgt := 42) (by decide) ?_
    refine G_iload_n h dX9_wantsBy_42 (i := 3) rfl rfl rfl ?_
    exact toI hR dX9_wantsBy_43 hf
  have hf := it_f c3 hf
  by_cases c4 : v0 = 3
  · have hf := it_t c4 hf
    refine G_tsIn h dX9_wantsBy_7 c4 (v := 3) (j := 2) (by decide) (by decide) rfl (tgt := 44) (by decide) ?_
    refine G_iload_n h dX9_wantsBy_44 (i := 2) rfl rfl rfl ?_
    refine G_iconst h dX9_wantsBy_45 ki_2 rfl ?_
    refine G_irem h dX9_wantsBy_46 (by decide) rfl ?_
    refine G_iconst h dX9_wantsBy_47 ki_1 rfl ?_
    have hJ : G X E (0, 0) 56 [some (.int v0), some (.int v1), some (.int v2), some (.int x1)] [.int (if (v2 - v2 / (2 : Int32) * (2 : Int32)) = (1 : Int32) then (4 : Int32) else (2 : Int32))] M := by
      exact toI hR dX9_wantsBy_56 hf
    refine G_icmp_ne h dX9_wantsBy_48 (tgt := 55) (by decide) rfl (fun c5 => ?_) (fun c5 => ?_)
    · refine G_iconst h dX9_wantsBy_55 ki_2 rfl ?_
      exact G_ifn c5 hJ
    · refine G_iconst h dX9_wantsBy_51 ki_4 rfl ?_
      refine G_goto h dX9_wantsBy_52 (tgt := 56) (by decide) ?_
      exact G_ifp c5 hJ
  have hf := it_f c4 hf
  by_cases c6 : v0 = 4
  · have hf := it_t c6 hf
    refine G_tsIn h dX9_wantsBy_7 c6 (v := 4) (j := 3) (by decide) (by decide) rfl (tgt := 57) (by decide) ?_
    refine G_iload_n h dX9_wantsBy_57 (i := 1) rfl rfl rfl ?_
    refine G_iconst h dX9_wantsBy_58 ki_5 rfl ?_
    have hJ : G X E (0, 0) 67 [some (.int v0), some (.int v1), some (.int v2), some (.int x1)] [.int (if (5 : Int32) < v1 then (1 : Int32) else (0 : Int32))] M := by
      exact toI hR dX9_wantsBy_67 hf
    refine G_icmp_gt h dX9_wantsBy_59 (tgt := 66) (by decide) rfl (fun c7 => ?_) (fun c7 => ?_)
    · refine G_iconst h dX9_wantsBy_66 ki_1 rfl ?_
      exact G_ifp c7 hJ
    · refine G_iconst h dX9_wantsBy_62 ki_0 rfl ?_
      refine G_goto h dX9_wantsBy_63 (tgt := 67) (by decide) ?_
      exact G_ifn c7 hJ
  have hf := it_f c6 hf
  by_cases c8 : v0 = 5
  · have hf := it_t c8 hf
    refine G_tsIn h dX9_wantsBy_7 c8 (v := 5) (j := 4) (by decide) (by decide) rfl (tgt := 68) (by decide) ?_
    refine G_iconst h dX9_wantsBy_68 ki_5 rfl ?_
    refine G_iconst h dX9_wantsBy_69 ki_2 rfl ?_
    refine G_iload_n h dX9_wantsBy_70 (i := 3) rfl rfl rfl ?_
    refine G_imul h dX9_wantsBy_71 rfl ?_
    refine cl_X9_179 h (ok_X9_lesser hE _  (r := f_X9_lesser E M (5 : Int32) ((2 : Int32) * x1)) rfl) dX9_wantsBy_72 (as := [.int (5 : Int32), .int ((2 : Int32) * x1)]) rfl rfl ⟨rfl, rfl, Nat.le_of_ble_eq_true rfl, Nat.le_of_ble_eq_true rfl⟩ rfl (Nat.le_of_ble_eq_true rfl) ?_
    exact toI hR dX9_wantsBy_75 hf
  have hf := it_f c8 hf
  have nc2 := ne_lit c2 (n := 1) (by decide)
  have nc3 := ne_lit c3 (n := 2) (by decide)
  have nc4 := ne_lit c4 (n := 3) (by decide)
  have nc6 := ne_lit c6 (n := 4) (by decide)
  have nc8 := ne_lit c8 (n := 5) (by decide)
  refine G_tsOut h dX9_wantsBy_7 (by omega) (tgt := 76) (by decide) ?_
  refine G_iconst h dX9_wantsBy_76 ki_1 rfl ?_
  exact toI hR dX9_wantsBy_77 hf
def rm_X9_worthBy : Room := { frames := 0, cells := 0, slots := 0, locals := 0 }
def f_X9_worthBy (E : Env1) (M : Mem) (v0 : Int32) (v1 : Int32) (v2 : Int32) : Int32 :=
  if v0 = 1 then (2 : Int32)
  else if v0 = 2 then (
    if v1 < (18 : Int32) then (1 : Int32) else (0 : Int32))
  else if v0 = 3 then (
    if v2 = (-1 : Int32) then (1 : Int32) else (2 : Int32))
  else if v0 = 4 then (
    if (v1 - v1 / (2 : Int32) * (2 : Int32)) = (1 : Int32) then (1 : Int32) else (0 : Int32))
  else if v0 = 5 then (
    if v1 < (18 : Int32) then (2 : Int32) else (4 : Int32))
  else (1 : Int32)
set_option maxRecDepth 100000 in
set_option maxHeartbeats 4000000 in
theorem ok_X9_worthBy {E : Env1} (hE : WF E) (l0 : Launch) {M : Mem} {v0 : Int32} {v1 : Int32} {v2 : Int32} {r : Int32}  (hf : f_X9_worthBy E M v0 v1 v2 = r) : Met l0 yX9_worthBy (wsA yX9_worthBy cX9_worthBy 3 (some .int)) rm_X9_worthBy (CP E M [.int v0, .int v1, .int v2]) (CQi E r M) 0 0 (eA E) := by
  unfold f_X9_worthBy at hf
  refine mtI l0 (by decide +kernel) (Nat.le_of_ble_eq_true rfl) (L0 := [some (.int v0), some (.int v1), some (.int v2)]) rfl (fun X h hR => ?_)
  refine G_iload_n h dX9_worthBy_0 (i := 0) rfl rfl rfl ?_
  by_cases c1 : v0 = 1
  · have hf := it_t c1 hf
    refine G_tsIn h dX9_worthBy_1 c1 (v := 1) (j := 0) (by decide) (by decide) rfl (tgt := 36) (by decide) ?_
    refine G_iconst h dX9_worthBy_36 ki_2 rfl ?_
    exact toI hR dX9_worthBy_37 hf
  have hf := it_f c1 hf
  by_cases c2 : v0 = 2
  · have hf := it_t c2 hf
    refine G_tsIn h dX9_worthBy_1 c2 (v := 2) (j := 1) (by decide) (by decide) rfl (tgt := 38) (by decide) ?_
    refine G_iload_n h dX9_worthBy_38 (i := 1) rfl rfl rfl ?_
    refine G_bipush h dX9_worthBy_39 kb_18 rfl ?_
    have hJ : G X E (0, 0) 49 [some (.int v0), some (.int v1), some (.int v2)] [.int (if v1 < (18 : Int32) then (1 : Int32) else (0 : Int32))] M := by
      exact toI hR dX9_worthBy_49 hf
    refine G_icmp_lt h dX9_worthBy_41 (tgt := 48) (by decide) rfl (fun c3 => ?_) (fun c3 => ?_)
    · refine G_iconst h dX9_worthBy_48 ki_1 rfl ?_
      exact G_ifp c3 hJ
    · refine G_iconst h dX9_worthBy_44 ki_0 rfl ?_
      refine G_goto h dX9_worthBy_45 (tgt := 49) (by decide) ?_
      exact G_ifn c3 hJ
  have hf := it_f c2 hf
  by_cases c4 : v0 = 3
  · have hf := it_t c4 hf
    refine G_tsIn h dX9_worthBy_1 c4 (v := 3) (j := 2) (by decide) (by decide) rfl (tgt := 50) (by decide) ?_
    refine G_iload_n h dX9_worthBy_50 (i := 2) rfl rfl rfl ?_
    refine G_iconst h dX9_worthBy_51 ki_m1 rfl ?_
    have hJ : G X E (0, 0) 60 [some (.int v0), some (.int v1), some (.int v2)] [.int (if v2 = (-1 : Int32) then (1 : Int32) else (2 : Int32))] M := by
      exact toI hR dX9_worthBy_60 hf
    refine G_icmp_ne h dX9_worthBy_52 (tgt := 59) (by decide) rfl (fun c5 => ?_) (fun c5 => ?_)
    · refine G_iconst h dX9_worthBy_59 ki_2 rfl ?_
      exact G_ifn c5 hJ
    · refine G_iconst h dX9_worthBy_55 ki_1 rfl ?_
      refine G_goto h dX9_worthBy_56 (tgt := 60) (by decide) ?_
      exact G_ifp c5 hJ
  have hf := it_f c4 hf
  by_cases c6 : v0 = 4
  · have hf := it_t c6 hf
    refine G_tsIn h dX9_worthBy_1 c6 (v := 4) (j := 3) (by decide) (by decide) rfl (tgt := 61) (by decide) ?_
    refine G_iload_n h dX9_worthBy_61 (i := 1) rfl rfl rfl ?_
    refine G_iconst h dX9_worthBy_62 ki_2 rfl ?_
    refine G_irem h dX9_worthBy_63 (by decide) rfl ?_
    refine G_iconst h dX9_worthBy_64 ki_1 rfl ?_
    have hJ : G X E (0, 0) 73 [some (.int v0), some (.int v1), some (.int v2)] [.int (if (v1 - v1 / (2 : Int32) * (2 : Int32)) = (1 : Int32) then (1 : Int32) else (0 : Int32))] M := by
      exact toI hR dX9_worthBy_73 hf
    refine G_icmp_ne h dX9_worthBy_65 (tgt := 72) (by decide) rfl (fun c7 => ?_) (fun c7 => ?_)
    · refine G_iconst h dX9_worthBy_72 ki_0 rfl ?_
      exact G_ifn c7 hJ
    · refine G_iconst h dX9_worthBy_68 ki_1 rfl ?_
      refine G_goto h dX9_worthBy_69 (tgt := 73) (by decide) ?_
      exact G_ifp c7 hJ
  have hf := it_f c6 hf
  by_cases c8 : v0 = 5
  · have hf := it_t c8 hf
    refine G_tsIn h dX9_worthBy_1 c8 (v := 5) (j := 4) (by decide) (by decide) rfl (tgt := 74) (by decide) ?_
    refine G_iload_n h dX9_worthBy_74 (i := 1) rfl rfl rfl ?_
    refine G_bipush h dX9_worthBy_75 kb_18 rfl ?_
    have hJ : G X E (0, 0) 85 [some (.int v0), some (.int v1), some (.int v2)] [.int (if v1 < (18 : Int32) then (2 : Int32) else (4 : Int32))] M := by
      exact toI hR dX9_worthBy_85 hf
    refine G_icmp_lt h dX9_worthBy_77 (tgt := 84) (by decide) rfl (fun c9 => ?_) (fun c9 => ?_)
    · refine G_iconst h dX9_worthBy_84 ki_2 rfl ?_
      exact G_ifp c9 hJ
    · refine G_iconst h dX9_worthBy_80 ki_4 rfl ?_
      refine G_goto h dX9_worthBy_81 (tgt := 85) (by decide) ?_
      exact G_ifn c9 hJ
  have hf := it_f c8 hf
  have nc1 := ne_lit c1 (n := 1) (by decide)
  have nc2 := ne_lit c2 (n := 2) (by decide)
  have nc4 := ne_lit c4 (n := 3) (by decide)
  have nc6 := ne_lit c6 (n := 4) (by decide)
  have nc8 := ne_lit c8 (n := 5) (by decide)
  refine G_tsOut h dX9_worthBy_1 (by omega) (tgt := 86) (by decide) ?_
  refine G_iconst h dX9_worthBy_86 ki_1 rfl ?_
  exact toI hR dX9_worthBy_87 hf
def rm_X9_greater : Room := { frames := 0, cells := 0, slots := 0, locals := 0 }
def f_X9_greater (E : Env1) (M : Mem) (v0 : Int32) (v1 : Int32) : Int32 :=
  if v0 ≤ v1 then v1 else v0
set_option maxRecDepth 100000 in
set_option maxHeartbeats 4000000 in
theorem ok_X9_greater {E : Env1} (hE : WF E) (l0 : Launch) {M : Mem} {v0 : Int32} {v1 : Int32} {r : Int32}  (hf : f_X9_greater E M v0 v1 = r) : Met l0 yX9_greater (wsA yX9_greater cX9_greater 2 (some .int)) rm_X9_greater (CP E M [.int v0, .int v1]) (CQi E r M) 0 0 (eA E) := by
  unfold f_X9_greater at hf
  refine mtI l0 (by decide +kernel) (Nat.le_of_ble_eq_true rfl) (L0 := [some (.int v0), some (.int v1)]) rfl (fun X h hR => ?_)
  refine G_iload_n h dX9_greater_0 (i := 0) rfl rfl rfl ?_
  refine G_iload_n h dX9_greater_1 (i := 1) rfl rfl rfl ?_
  have hJ : G X E (0, 0) 10 [some (.int v0), some (.int v1)] [.int (if v0 ≤ v1 then v1 else v0)] M := by
    exact toI hR dX9_greater_10 hf
  refine G_icmp_le h dX9_greater_2 (tgt := 9) (by decide) rfl (fun c1 => ?_) (fun c1 => ?_)
  · refine G_iload_n h dX9_greater_9 (i := 1) rfl rfl rfl ?_
    exact G_ifp c1 hJ
  · refine G_iload_n h dX9_greater_5 (i := 0) rfl rfl rfl ?_
    refine G_goto h dX9_greater_6 (tgt := 10) (by decide) ?_
    exact G_ifn c1 hJ
def rm_X9_alike : Room := { frames := 2, cells := 0, slots := 0, locals := 44 }
def b_X9_alike_L41 (E : Env1) (M : Mem) (k6 : Int32 → Int32 → Int32 → Int32 → Int32 → Int32 → (Option (Int32))) (k41 : Int32 → Int32 → Int32 → Int32 → Int32 → Int32 → Int32 → Int32 → Int32 → (Option (Int32))) (v0 : Int32) (v1 : Int32) (v2 : Int32) (v3 : Int32) (v4 : Int32) (v5 : Int32) (v6 : Int32) (v7 : Int32) (v8 : Int32) : Option (Int32) :=
  if (5 : Int32) < v8 then (k6 v0 v1 v2 v3 (f_X9_greater E M v4 v6) (v5 + 1))
  else (
    nm (if v1 = 0 then f_X9_worthBy E M v8 v2 v3 else f_X9_wantsBy E M v8 v3 v2) fun x3 =>
    nm (v6 + (if (f_X9_has E M v0 v5) = 0 then (0 : Int32) else if (f_X9_has E M v0 v8) = 0 then (0 : Int32) else if v7 = x3 then (1 : Int32) else (0 : Int32))) fun x9 =>
    k41 v0 v1 v2 v3 v4 v5 x9 v7 (v8 + 1))
set_option maxRecDepth 100000 in
set_option maxHeartbeats 4000000 in
theorem ob_X9_alike_L41 {X : Ctx} {l0 : Launch} {E : Env1} (h : Cx X l0 E RX9 cX9_alike (some .int) 10 rm_X9_alike) (hE : WF E) {M : Mem} {r : Int32} (hR : RetI X E cX9_alike r M) {k6 : Int32 → Int32 → Int32 → Int32 → Int32 → Int32 → (Option (Int32))} (hk6 : ∀ (v0 : Int32) (v1 : Int32) (v2 : Int32) (v3 : Int32) (v4 : Int32) (v5 : Int32), k6 v0 v1 v2 v3 v4 v5 = some r → G X E (0, 0) 6 [some (.int v0), some (.int v1), some (.int v2), some (.int v3), some (.int v4), some (.int v5), none, none, none, none] [] M) {k41 : Int32 → Int32 → Int32 → Int32 → Int32 → Int32 → Int32 → Int32 → Int32 → (Option (Int32))} (hk41 : ∀ (v0 : Int32) (v1 : Int32) (v2 : Int32) (v3 : Int32) (v4 : Int32) (v5 : Int32) (v6 : Int32) (v7 : Int32) (v8 : Int32), k41 v0 v1 v2 v3 v4 v5 v6 v7 v8 = some r → G X E (0, 0) 41 [some (.int v0), some (.int v1), some (.int v2), some (.int v3), some (.int v4), some (.int v5), some (.int v6), some (.int v7), some (.int v8), none] [] M) {v0 : Int32} {v1 : Int32} {v2 : Int32} {v3 : Int32} {v4 : Int32} {v5 : Int32} {v6 : Int32} {v7 : Int32} {v8 : Int32}  (hf : b_X9_alike_L41 E M k6 k41 v0 v1 v2 v3 v4 v5 v6 v7 v8 = some r) : G X E (0, 0) 41 [some (.int v0), some (.int v1), some (.int v2), some (.int v3), some (.int v4), some (.int v5), some (.int v6), some (.int v7), some (.int v8), none] [] M := by
  unfold b_X9_alike_L41 at hf
  refine G_iload h dX9_alike_41 rfl rfl ?_
  refine G_iconst h dX9_alike_43 ki_5 rfl ?_
  refine G_icmp_gt h dX9_alike_44 (tgt := 111) (by decide) rfl (fun c1 => ?_) (fun c1 => ?_)
  · have hf := it_t c1 hf
    refine G_iload h dX9_alike_111 rfl rfl ?_
    refine G_iload h dX9_alike_113 rfl rfl ?_
    refine cl_X9_262 h (ok_X9_greater hE _  (r := f_X9_greater E M v4 v6) rfl) dX9_alike_115 (as := [.int v4, .int v6]) rfl rfl ⟨rfl, rfl, Nat.le_of_ble_eq_true rfl, Nat.le_of_ble_eq_true rfl⟩ rfl (Nat.le_of_ble_eq_true rfl) ?_
    refine G_istore h dX9_alike_118  (by decide) (L' := [some (.int v0), some (.int v1), some (.int v2), some (.int v3), some (.int (f_X9_greater E M v4 v6)), some (.int v5), some (.int v6), some (.int v7), some (.int v8), none]) rfl rfl ?_
    refine G_iinc2 h dX9_alike_120 rfl ki_1 (by decide) (L' := [some (.int v0), some (.int v1), some (.int v2), some (.int v3), some (.int (f_X9_greater E M v4 v6)), some (.int (v5 + 1)), some (.int v6), some (.int v7), some (.int v8), none]) rfl rfl ?_
    refine G_goto h dX9_alike_123 (tgt := 6) (by decide) ?_
    refine G_mskL [true, true, true, true, true, true, false, false, false, false] (L' := [some (.int v0), some (.int v1), some (.int v2), some (.int v3), some (.int (f_X9_greater E M v4 v6)), some (.int (v5 + 1)), none, none, none, none]) rfl ?_
    exact hk6 _ _ _ _ _ _ hf
  · have hf := it_f c1 hf
    refine G_iload_n h dX9_alike_47 (i := 1) rfl rfl rfl ?_
    have hJ : G X E (0, 0) 68 [some (.int v0), some (.int v1), some (.int v2), some (.int v3), some (.int v4), some (.int v5), some (.int v6), some (.int v7), some (.int v8), none] [.int (if v1 = 0 then f_X9_worthBy E M v8 v2 v3 else f_X9_wantsBy E M v8 v3 v2)] M := by
      refine G_nmi (fun x3 hx3 => ?_)
      have hf := nm_eq hx3 hf
      refine G_istore h dX9_alike_68  (by decide) (L' := [some (.int v0), some (.int v1), some (.int v2), some (.int v3), some (.int v4), some (.int v5), some (.int v6), some (.int v7), some (.int v8), some (.int x3)]) rfl rfl ?_
      refine G_iload h dX9_alike_70 rfl rfl ?_
      refine G_iload_n h dX9_alike_72 (i := 0) rfl rfl rfl ?_
      refine G_iload h dX9_alike_73 rfl rfl ?_
      refine cl_X9_189 h (ok_X9_has hE _  (r := f_X9_has E M v0 v5) rfl) dX9_alike_75 (as := [.int v0, .int v5]) rfl rfl ⟨rfl, rfl, Nat.le_of_ble_eq_true rfl, Nat.le_of_ble_eq_true rfl⟩ rfl (Nat.le_of_ble_eq_true rfl) (fun z4 => ?_)
      have hJ : G X E (0, 0) 102 [some (.int v0), some (.int v1), some (.int v2), some (.int v3), some (.int v4), some (.int v5), some (.int v6), some (.int v7), some (.int v8), some (.int x3)] [.int (if (f_X9_has E M v0 v5) = 0 then (0 : Int32) else if (f_X9_has E M v0 v8) = 0 then (0 : Int32) else if v7 = x3 then (1 : Int32) else (0 : Int32)), .int v6] M := by
        refine G_iadd h dX9_alike_102 rfl ?_
        refine G_nmi (fun x9 hx9 => ?_)
        have hf := nm_eq hx9 hf
        refine G_istore h dX9_alike_103  (by decide) (L' := [some (.int v0), some (.int v1), some (.int v2), some (.int v3), some (.int v4), some (.int v5), some (.int x9), some (.int v7), some (.int v8), some (.int x3)]) rfl rfl ?_
        refine G_iinc2 h dX9_alike_105 rfl ki_1 (by decide) (L' := [some (.int v0), some (.int v1), some (.int v2), some (.int v3), some (.int v4), some (.int v5), some (.int x9), some (.int v7), some (.int (v8 + 1)), some (.int x3)]) rfl rfl ?_
        refine G_goto h dX9_alike_108 (tgt := 41) (by decide) ?_
        refine G_mskL [true, true, true, true, true, true, true, true, true, false] (L' := [some (.int v0), some (.int v1), some (.int v2), some (.int v3), some (.int v4), some (.int v5), some (.int x9), some (.int v7), some (.int (v8 + 1)), none]) rfl ?_
        exact hk41 _ _ _ _ _ _ _ _ _ hf
      refine G_if_eq h dX9_alike_78 (tgt := 101) (by decide) rfl (fun c5 => ?_) (fun c5 => ?_)
      · refine G_iconst h dX9_alike_101 ki_0 rfl ?_
        exact G_ifp c5 hJ
      · refine G_iload_n h dX9_alike_81 (i := 0) rfl rfl rfl ?_
        refine G_iload h dX9_alike_82 rfl rfl ?_
        refine cl_X9_189 h (ok_X9_has hE _  (r := f_X9_has E M v0 v8) rfl) dX9_alike_84 (as := [.int v0, .int v8]) rfl rfl ⟨rfl, rfl, Nat.le_of_ble_eq_true rfl, Nat.le_of_ble_eq_true rfl⟩ rfl (Nat.le_of_ble_eq_true rfl) (fun z6 => ?_)
        refine G_if_eq h dX9_alike_87 (tgt := 101) (by decide) rfl (fun c7 => ?_) (fun c7 => ?_)
        · refine G_iconst h dX9_alike_101 ki_0 rfl ?_
          exact G_ifp c7 (G_ifn c5 hJ)
        · refine G_iload h dX9_alike_90 rfl rfl ?_
          refine G_iload h dX9_alike_92 rfl rfl ?_
          refine G_icmp_ne h dX9_alike_94 (tgt := 101) (by decide) rfl (fun c8 => ?_) (fun c8 => ?_)
          · refine G_iconst h dX9_alike_101 ki_0 rfl ?_
            exact G_ifn c8 (G_ifn c7 (G_ifn c5 hJ))
          · refine G_iconst h dX9_alike_97 ki_1 rfl ?_
            refine G_goto h dX9_alike_98 (tgt := 102) (by decide) ?_
            exact G_ifp c8 (G_ifn c7 (G_ifn c5 hJ))
    refine G_if_eq h dX9_alike_48 (tgt := 61) (by decide) rfl (fun c2 => ?_) (fun c2 => ?_)
    · refine G_iload h dX9_alike_61 rfl rfl ?_
      refine G_iload_n h dX9_alike_63 (i := 2) rfl rfl rfl ?_
      refine G_iload_n h dX9_alike_64 (i := 3) rfl rfl rfl ?_
      refine cl_X9_186 h (ok_X9_worthBy hE _  (r := f_X9_worthBy E M v8 v2 v3) rfl) dX9_alike_65 (as := [.int v8, .int v2, .int v3]) rfl rfl ⟨rfl, rfl, Nat.le_of_ble_eq_true rfl, Nat.le_of_ble_eq_true rfl⟩ rfl (Nat.le_of_ble_eq_true rfl) ?_
      exact G_ifp c2 hJ
    · refine G_iload h dX9_alike_51 rfl rfl ?_
      refine G_iload_n h dX9_alike_53 (i := 3) rfl rfl rfl ?_
      refine G_iload_n h dX9_alike_54 (i := 2) rfl rfl rfl ?_
      refine cl_X9_182 h (ok_X9_wantsBy hE _  (r := f_X9_wantsBy E M v8 v3 v2) rfl) dX9_alike_55 (as := [.int v8, .int v3, .int v2]) rfl rfl ⟨rfl, rfl, Nat.le_of_ble_eq_true rfl, Nat.le_of_ble_eq_true rfl⟩ rfl (Nat.le_of_ble_eq_true rfl) ?_
      refine G_goto h dX9_alike_58 (tgt := 68) (by decide) ?_
      exact G_ifn c2 hJ
def f_X9_alike_L41 (E : Env1) (M : Mem) (k6 : Int32 → Int32 → Int32 → Int32 → Int32 → Int32 → (Option (Int32))) : Nat → Int32 → Int32 → Int32 → Int32 → Int32 → Int32 → Int32 → Int32 → Int32 → (Option (Int32))
  | 0 => fun _ _ _ _ _ _ _ _ _ => none
  | n + 1 => b_X9_alike_L41 E M k6 (f_X9_alike_L41 E M k6 n)
theorem o_X9_alike_L41 {X : Ctx} {l0 : Launch} {E : Env1} (h : Cx X l0 E RX9 cX9_alike (some .int) 10 rm_X9_alike) (hE : WF E) {M : Mem} {r : Int32} (hR : RetI X E cX9_alike r M) {k6 : Int32 → Int32 → Int32 → Int32 → Int32 → Int32 → (Option (Int32))} (hk6 : ∀ (v0 : Int32) (v1 : Int32) (v2 : Int32) (v3 : Int32) (v4 : Int32) (v5 : Int32), k6 v0 v1 v2 v3 v4 v5 = some r → G X E (0, 0) 6 [some (.int v0), some (.int v1), some (.int v2), some (.int v3), some (.int v4), some (.int v5), none, none, none, none] [] M) : ∀ (n : Nat) (v0 : Int32) (v1 : Int32) (v2 : Int32) (v3 : Int32) (v4 : Int32) (v5 : Int32) (v6 : Int32) (v7 : Int32) (v8 : Int32), f_X9_alike_L41 E M k6 n v0 v1 v2 v3 v4 v5 v6 v7 v8 = some r → G X E (0, 0) 41 [some (.int v0), some (.int v1), some (.int v2), some (.int v3), some (.int v4), some (.int v5), some (.int v6), some (.int v7), some (.int v8), none] [] M := by
  intro n
  induction n with
  | zero =>
    intro _ _ _ _ _ _ _ _ _  hf
    have h0 : (none : Option (Int32)) = some r := hf
    cases h0
  | succ n ih =>
    intro _ _ _ _ _ _ _ _ _  hf
    exact ob_X9_alike_L41 h hE hR hk6 ih  hf
def b_X9_alike_L6 (E : Env1) (M : Mem) (k6 : Int32 → Int32 → Int32 → Int32 → Int32 → Int32 → (Option (Int32))) (v0 : Int32) (v1 : Int32) (v2 : Int32) (v3 : Int32) (v4 : Int32) (v5 : Int32) : Option (Int32) :=
  if (5 : Int32) < v5 then (some v4)
  else (
    nm (if v1 = 0 then f_X9_worthBy E M v5 v2 v3 else f_X9_wantsBy E M v5 v3 v2) fun x3 =>
    f_X9_alike_L41 E M k6 FU v0 v1 v2 v3 v4 v5 (0 : Int32) x3 (0 : Int32))
set_option maxRecDepth 100000 in
set_option maxHeartbeats 4000000 in
theorem ob_X9_alike_L6 {X : Ctx} {l0 : Launch} {E : Env1} (h : Cx X l0 E RX9 cX9_alike (some .int) 10 rm_X9_alike) (hE : WF E) {M : Mem} {r : Int32} (hR : RetI X E cX9_alike r M) {k6 : Int32 → Int32 → Int32 → Int32 → Int32 → Int32 → (Option (Int32))} (hk6 : ∀ (v0 : Int32) (v1 : Int32) (v2 : Int32) (v3 : Int32) (v4 : Int32) (v5 : Int32), k6 v0 v1 v2 v3 v4 v5 = some r → G X E (0, 0) 6 [some (.int v0), some (.int v1), some (.int v2), some (.int v3), some (.int v4), some (.int v5), none, none, none, none] [] M) {v0 : Int32} {v1 : Int32} {v2 : Int32} {v3 : Int32} {v4 : Int32} {v5 : Int32}  (hf : b_X9_alike_L6 E M k6 v0 v1 v2 v3 v4 v5 = some r) : G X E (0, 0) 6 [some (.int v0), some (.int v1), some (.int v2), some (.int v3), some (.int v4), some (.int v5), none, none, none, none] [] M := by
  unfold b_X9_alike_L6 at hf
  refine G_iload h dX9_alike_6 rfl rfl ?_
  refine G_iconst h dX9_alike_8 ki_5 rfl ?_
  refine G_icmp_gt h dX9_alike_9 (tgt := 126) (by decide) rfl (fun c1 => ?_) (fun c1 => ?_)
  · have hf := it_t c1 hf
    refine G_iload h dX9_alike_126 rfl rfl ?_
    exact roI hR dX9_alike_128 hf
  · have hf := it_f c1 hf
    refine G_iconst h dX9_alike_12 ki_0 rfl ?_
    refine G_istore h dX9_alike_13  (by decide) (L' := [some (.int v0), some (.int v1), some (.int v2), some (.int v3), some (.int v4), some (.int v5), some (.int (0 : Int32)), none, none, none]) rfl rfl ?_
    refine G_iload_n h dX9_alike_15 (i := 1) rfl rfl rfl ?_
    have hJ : G X E (0, 0) 36 [some (.int v0), some (.int v1), some (.int v2), some (.int v3), some (.int v4), some (.int v5), some (.int (0 : Int32)), none, none, none] [.int (if v1 = 0 then f_X9_worthBy E M v5 v2 v3 else f_X9_wantsBy E M v5 v3 v2)] M := by
      refine G_nmi (fun x3 hx3 => ?_)
      have hf := nm_eq hx3 hf
      refine G_istore h dX9_alike_36  (by decide) (L' := [some (.int v0), some (.int v1), some (.int v2), some (.int v3), some (.int v4), some (.int v5), some (.int (0 : Int32)), some (.int x3), none, none]) rfl rfl ?_
      refine G_iconst h dX9_alike_38 ki_0 rfl ?_
      refine G_istore h dX9_alike_39  (by decide) (L' := [some (.int v0), some (.int v1), some (.int v2), some (.int v3), some (.int v4), some (.int v5), some (.int (0 : Int32)), some (.int x3), some (.int (0 : Int32)), none]) rfl rfl ?_
      exact o_X9_alike_L41 h hE hR hk6 FU _ _ _ _ _ _ _ _ _ hf
    refine G_if_eq h dX9_alike_16 (tgt := 29) (by decide) rfl (fun c2 => ?_) (fun c2 => ?_)
    · refine G_iload h dX9_alike_29 rfl rfl ?_
      refine G_iload_n h dX9_alike_31 (i := 2) rfl rfl rfl ?_
      refine G_iload_n h dX9_alike_32 (i := 3) rfl rfl rfl ?_
      refine cl_X9_186 h (ok_X9_worthBy hE _  (r := f_X9_worthBy E M v5 v2 v3) rfl) dX9_alike_33 (as := [.int v5, .int v2, .int v3]) rfl rfl ⟨rfl, rfl, Nat.le_of_ble_eq_true rfl, Nat.le_of_ble_eq_true rfl⟩ rfl (Nat.le_of_ble_eq_true rfl) ?_
      exact G_ifp c2 hJ
    · refine G_iload h dX9_alike_19 rfl rfl ?_
      refine G_iload_n h dX9_alike_21 (i := 3) rfl rfl rfl ?_
      refine G_iload_n h dX9_alike_22 (i := 2) rfl rfl rfl ?_
      refine cl_X9_182 h (ok_X9_wantsBy hE _  (r := f_X9_wantsBy E M v5 v3 v2) rfl) dX9_alike_23 (as := [.int v5, .int v3, .int v2]) rfl rfl ⟨rfl, rfl, Nat.le_of_ble_eq_true rfl, Nat.le_of_ble_eq_true rfl⟩ rfl (Nat.le_of_ble_eq_true rfl) ?_
      refine G_goto h dX9_alike_26 (tgt := 36) (by decide) ?_
      exact G_ifn c2 hJ
def f_X9_alike_L6 (E : Env1) (M : Mem) : Nat → Int32 → Int32 → Int32 → Int32 → Int32 → Int32 → (Option (Int32))
  | 0 => fun _ _ _ _ _ _ => none
  | n + 1 => b_X9_alike_L6 E M (f_X9_alike_L6 E M n)
theorem o_X9_alike_L6 {X : Ctx} {l0 : Launch} {E : Env1} (h : Cx X l0 E RX9 cX9_alike (some .int) 10 rm_X9_alike) (hE : WF E) {M : Mem} {r : Int32} (hR : RetI X E cX9_alike r M) : ∀ (n : Nat) (v0 : Int32) (v1 : Int32) (v2 : Int32) (v3 : Int32) (v4 : Int32) (v5 : Int32), f_X9_alike_L6 E M n v0 v1 v2 v3 v4 v5 = some r → G X E (0, 0) 6 [some (.int v0), some (.int v1), some (.int v2), some (.int v3), some (.int v4), some (.int v5), none, none, none, none] [] M := by
  intro n
  induction n with
  | zero =>
    intro _ _ _ _ _ _  hf
    have h0 : (none : Option (Int32)) = some r := hf
    cases h0
  | succ n ih =>
    intro _ _ _ _ _ _  hf
    exact ob_X9_alike_L6 h hE hR  ih  hf
def f_X9_alike (E : Env1) (M : Mem) (v0 : Int32) (v1 : Int32) (v2 : Int32) (v3 : Int32) : Option (Int32) :=
  f_X9_alike_L6 E M FU v0 v1 v2 v3 (0 : Int32) (0 : Int32)
set_option maxRecDepth 100000 in
set_option maxHeartbeats 4000000 in
theorem ok_X9_alike {E : Env1} (hE : WF E) (l0 : Launch) {M : Mem} {v0 : Int32} {v1 : Int32} {v2 : Int32} {v3 : Int32} {r : Int32}  (hf : f_X9_alike E M v0 v1 v2 v3 = some r) : Met l0 yX9_alike (wsA yX9_alike cX9_alike 10 (some .int)) rm_X9_alike (CP E M [.int v0, .int v1, .int v2, .int v3]) (CQi E r M) 0 0 (eA E) := by
  unfold f_X9_alike at hf
  refine mtI l0 (by decide +kernel) (Nat.le_of_ble_eq_true rfl) (L0 := [some (.int v0), some (.int v1), some (.int v2), some (.int v3), none, none, none, none, none, none]) rfl (fun X h hR => ?_)
  refine G_iconst h dX9_alike_0 ki_0 rfl ?_
  refine G_istore h dX9_alike_1  (by decide) (L' := [some (.int v0), some (.int v1), some (.int v2), some (.int v3), some (.int (0 : Int32)), none, none, none, none, none]) rfl rfl ?_
  refine G_iconst h dX9_alike_3 ki_0 rfl ?_
  refine G_istore h dX9_alike_4  (by decide) (L' := [some (.int v0), some (.int v1), some (.int v2), some (.int v3), some (.int (0 : Int32)), some (.int (0 : Int32)), none, none, none, none]) rfl rfl ?_
  exact o_X9_alike_L6 h hE hR  FU _ _ _ _ _ _ hf
def rm_X9_isOne : Room := { frames := 1, cells := 0, slots := 0, locals := 22 }
def f_X9_isOne (E : Env1) (M : Mem) (v0 : Nat) (v1 : Int32) : Int32 :=
  f_X9_in E M v1 (0 : Int32) ((mi M v0 1) - (1 : Int32))
set_option maxRecDepth 100000 in
set_option maxHeartbeats 4000000 in
theorem ok_X9_isOne {E : Env1} (hE : WF E) (l0 : Launch) {M : Mem} {v0 : Nat} {v1 : Int32} {r : Int32} (h0 : isK E v0 8) (hf : f_X9_isOne E M v0 v1 = r) : Met l0 yX9_isOne (wsA yX9_isOne cX9_isOne 2 (some .boolean)) rm_X9_isOne (CP E M [.ref v0, .int v1]) (CQz E r M) 0 0 (eA E) := by
  unfold f_X9_isOne at hf
  refine mtZ l0 (by decide +kernel) (Nat.le_of_ble_eq_true rfl) (L0 := [some (.ref v0), some (.int v1)]) rfl (fun X h hR => ?_)
  refine G_iload_n h dX9_isOne_0 (i := 1) rfl rfl rfl ?_
  refine G_iconst h dX9_isOne_1 ki_0 rfl ?_
  refine G_aload_n h dX9_isOne_2 (i := 0) rfl rfl rfl ?_
  refine gf_X9_69 h dX9_isOne_3 h0 rfl ?_
  refine G_iconst h dX9_isOne_6 ki_1 rfl ?_
  refine G_isub h dX9_isOne_7 rfl ?_
  refine cl_X9_91 h (ok_X9_in hE _  (r := f_X9_in E M v1 (0 : Int32) ((mi M v0 1) - (1 : Int32))) rfl) dX9_isOne_8 (as := [.int v1, .int (0 : Int32), .int ((mi M v0 1) - (1 : Int32))]) rfl rfl ⟨rfl, rfl, Nat.le_of_ble_eq_true rfl, Nat.le_of_ble_eq_true rfl⟩ rfl (Nat.le_of_ble_eq_true rfl) (fun z1 => ?_)
  exact toZ hR dX9_isOne_11 z1 hf
def rm_X9_peopleKinds : Room := { frames := 1, cells := 0, slots := 0, locals := 22 }
def b_X9_peopleKinds_L15 (E : Env1) (M : Mem) (k4 : Nat → Int32 → Int32 → Int32 → (Option (Int32))) (k15 : Nat → Int32 → Int32 → Int32 → Int32 → Int32 → (Option (Int32))) (v0 : Nat) (v1 : Int32) (v2 : Int32) (v3 : Int32) (v4 : Int32) (v5 : Int32) : Option (Int32) :=
  if ((4 : Int32) * (mi M v0 6)) ≤ v5 then (
    nm (v2 ||| (if v4 = 0 then (0 : Int32) else (1 : Int32) <<< (v3 &&& 31))) fun x3 =>
    k4 v0 v1 x3 (v3 + 1))
  else (
    gd (v5 + (2 : Int32)) 24 (gd (v5 + (1 : Int32)) 24 (gd (v5 + (3 : Int32)) 24 (nm (if (f_X9_worthBy E M v3 (mi M (rr E v0 14) (ix (v5 + (2 : Int32)))) (mi M (rr E v0 14) (ix (v5 + (1 : Int32))))) = (mi M (rr E v0 14) (ix (v5 + (3 : Int32)))) then (1 : Int32) else (0 : Int32)) fun x8 =>
    if v4 = 0 then (k15 v0 v1 v2 v3 (0 : Int32) (v5 + 4))
    else (
      gd v5 24 (if (mi M (rr E v0 14) (ix v5)) = v1 then (
        if x8 = 0 then (k15 v0 v1 v2 v3 (0 : Int32) (v5 + 4))
        else (k15 v0 v1 v2 v3 (1 : Int32) (v5 + 4)))
      else (k15 v0 v1 v2 v3 (1 : Int32) (v5 + 4))))))))
set_option maxRecDepth 100000 in
set_option maxHeartbeats 4000000 in
theorem ob_X9_peopleKinds_L15 {X : Ctx} {l0 : Launch} {E : Env1} (h : Cx X l0 E RX9 cX9_peopleKinds (some .int) 7 rm_X9_peopleKinds) (hE : WF E) {M : Mem} {r : Int32} (hR : RetI X E cX9_peopleKinds r M) {k4 : Nat → Int32 → Int32 → Int32 → (Option (Int32))} (hk4 : ∀ (v0 : Nat) (v1 : Int32) (v2 : Int32) (v3 : Int32), isK E v0 8 → k4 v0 v1 v2 v3 = some r → G X E (0, 0) 4 [some (.ref v0), some (.int v1), some (.int v2), some (.int v3), none, none, none] [] M) {k15 : Nat → Int32 → Int32 → Int32 → Int32 → Int32 → (Option (Int32))} (hk15 : ∀ (v0 : Nat) (v1 : Int32) (v2 : Int32) (v3 : Int32) (v4 : Int32) (v5 : Int32), isK E v0 8 → (v4 = 0 ∨ v4 = 1) → k15 v0 v1 v2 v3 v4 v5 = some r → G X E (0, 0) 15 [some (.ref v0), some (.int v1), some (.int v2), some (.int v3), some (.int v4), some (.int v5), none] [] M) {v0 : Nat} {v1 : Int32} {v2 : Int32} {v3 : Int32} {v4 : Int32} {v5 : Int32} (h_v0 : isK E v0 8) (z_v4 : v4 = 0 ∨ v4 = 1) (hf : b_X9_peopleKinds_L15 E M k4 k15 v0 v1 v2 v3 v4 v5 = some r) : G X E (0, 0) 15 [some (.ref v0), some (.int v1), some (.int v2), some (.int v3), some (.int v4), some (.int v5), none] [] M := by
  unfold b_X9_peopleKinds_L15 at hf
  refine G_iload h dX9_peopleKinds_15 rfl rfl ?_
  refine G_iconst h dX9_peopleKinds_17 ki_4 rfl ?_
  refine G_aload_n h dX9_peopleKinds_18 (i := 0) rfl rfl rfl ?_
  refine gf_X9_85 h dX9_peopleKinds_19 h_v0 rfl ?_
  refine G_imul h dX9_peopleKinds_22 rfl ?_
  refine G_icmp_ge h dX9_peopleKinds_23 (tgt := 101) (by decide) rfl (fun c1 => ?_) (fun c1 => ?_)
  · have hf := it_t c1 hf
    refine G_iload_n h dX9_peopleKinds_101 (i := 2) rfl rfl rfl ?_
    refine G_iload h dX9_peopleKinds_102 rfl rfl ?_
    have hJ : G X E (0, 0) 114 [some (.ref v0), some (.int v1), some (.int v2), some (.int v3), some (.int v4), some (.int v5), none] [.int (if v4 = 0 then (0 : Int32) else (1 : Int32) <<< (v3 &&& 31)), .int v2] M := by
      refine G_ior h dX9_peopleKinds_114 rfl ?_
      refine G_nmi (fun x3 hx3 => ?_)
      have hf := nm_eq hx3 hf
      refine G_istore_n h dX9_peopleKinds_115 (i := 2) rfl (by decide) (L' := [some (.ref v0), some (.int v1), some (.int x3), some (.int v3), some (.int v4), some (.int v5), none]) rfl rfl ?_
      refine G_iinc2 h dX9_peopleKinds_116 rfl ki_1 (by decide) (L' := [some (.ref v0), some (.int v1), some (.int x3), some (.int (v3 + 1)), some (.int v4), some (.int v5), none]) rfl rfl ?_
      refine G_goto h dX9_peopleKinds_119 (tgt := 4) (by decide) ?_
      refine G_mskL [true, true, true, true, false, false, false] (L' := [some (.ref v0), some (.int v1), some (.int x3), some (.int (v3 + 1)), none, none, none]) rfl ?_
      exact hk4 _ _ _ _ h_v0 hf
    refine G_if_eq h dX9_peopleKinds_104 (tgt := 113) (by decide) rfl (fun c2 => ?_) (fun c2 => ?_)
    · refine G_iconst h dX9_peopleKinds_113 ki_0 rfl ?_
      exact G_ifp c2 hJ
    · refine G_iconst h dX9_peopleKinds_107 ki_1 rfl ?_
      refine G_iload_n h dX9_peopleKinds_108 (i := 3) rfl rfl rfl ?_
      refine G_ishl h dX9_peopleKinds_109 rfl ?_
      refine G_goto h dX9_peopleKinds_110 (tgt := 114) (by decide) ?_
      exact G_ifn c2 hJ
  · have hf := it_f c1 hf
    refine G_iload_n h dX9_peopleKinds_26 (i := 3) rfl rfl rfl ?_
    refine G_aload_n h dX9_peopleKinds_27 (i := 0) rfl rfl rfl ?_
    refine gf_X9_34 h hE dX9_peopleKinds_28 h_v0 rfl ?_
    refine G_iload h dX9_peopleKinds_31 rfl rfl ?_
    refine G_iconst h dX9_peopleKinds_33 ki_2 rfl ?_
    refine G_iadd h dX9_peopleKinds_34 rfl ?_
    obtain ⟨g4, hf⟩ := gd_some hf
    refine G_iald h dX9_peopleKinds_35 ((w_8_14 hE h_v0).2) g4 (jx := (ix (v5 + (2 : Int32)))) rfl rfl ?_
    refine G_aload_n h dX9_peopleKinds_36 (i := 0) rfl rfl rfl ?_
    refine gf_X9_34 h hE dX9_peopleKinds_37 h_v0 rfl ?_
    refine G_iload h dX9_peopleKinds_40 rfl rfl ?_
    refine G_iconst h dX9_peopleKinds_42 ki_1 rfl ?_
    refine G_iadd h dX9_peopleKinds_43 rfl ?_
    obtain ⟨g5, hf⟩ := gd_some hf
    refine G_iald h dX9_peopleKinds_44 ((w_8_14 hE h_v0).2) g5 (jx := (ix (v5 + (1 : Int32)))) rfl rfl ?_
    refine cl_X9_186 h (ok_X9_worthBy hE _  (r := f_X9_worthBy E M v3 (mi M (rr E v0 14) (ix (v5 + (2 : Int32)))) (mi M (rr E v0 14) (ix (v5 + (1 : Int32))))) rfl) dX9_peopleKinds_45 (as := [.int v3, .int (mi M (rr E v0 14) (ix (v5 + (2 : Int32)))), .int (mi M (rr E v0 14) (ix (v5 + (1 : Int32))))]) rfl rfl ⟨rfl, rfl, Nat.le_of_ble_eq_true rfl, Nat.le_of_ble_eq_true rfl⟩ rfl (Nat.le_of_ble_eq_true rfl) ?_
    refine G_aload_n h dX9_peopleKinds_48 (i := 0) rfl rfl rfl ?_
    refine gf_X9_34 h hE dX9_peopleKinds_49 h_v0 rfl ?_
    refine G_iload h dX9_peopleKinds_52 rfl rfl ?_
    refine G_iconst h dX9_peopleKinds_54 ki_3 rfl ?_
    refine G_iadd h dX9_peopleKinds_55 rfl ?_
    obtain ⟨g6, hf⟩ := gd_some hf
    refine G_iald h dX9_peopleKinds_56 ((w_8_14 hE h_v0).2) g6 (jx := (ix (v5 + (3 : Int32)))) rfl rfl ?_
    have hJ : G X E (0, 0) 65 [some (.ref v0), some (.int v1), some (.int v2), some (.int v3), some (.int v4), some (.int v5), none] [.int (if (f_X9_worthBy E M v3 (mi M (rr E v0 14) (ix (v5 + (2 : Int32)))) (mi M (rr E v0 14) (ix (v5 + (1 : Int32))))) = (mi M (rr E v0 14) (ix (v5 + (3 : Int32)))) then (1 : Int32) else (0 : Int32))] M := by
      refine G_nmi (fun x8 hx8 => ?_)
      have hf := nm_eq hx8 hf
      refine G_istore h dX9_peopleKinds_65  (by decide) (L' := [some (.ref v0), some (.int v1), some (.int v2), some (.int v3), some (.int v4), some (.int v5), some (.int x8)]) rfl rfl ?_
      refine G_iload h dX9_peopleKinds_67 rfl rfl ?_
      refine G_if_eq h dX9_peopleKinds_69 (tgt := 92) (by decide) rfl (fun c9 => ?_) (fun c9 => ?_)
      · have hf := it_t c9 hf
        refine G_iconst h dX9_peopleKinds_92 ki_0 rfl ?_
        refine G_istore h dX9_peopleKinds_93  (by decide) (L' := [some (.ref v0), some (.int v1), some (.int v2), some (.int v3), some (.int (0 : Int32)), some (.int v5), some (.int x8)]) rfl rfl ?_
        refine G_iinc2 h dX9_peopleKinds_95 rfl ki_4 (by decide) (L' := [some (.ref v0), some (.int v1), some (.int v2), some (.int v3), some (.int (0 : Int32)), some (.int (v5 + 4)), some (.int x8)]) rfl rfl ?_
        refine G_goto h dX9_peopleKinds_98 (tgt := 15) (by decide) ?_
        refine G_mskL [true, true, true, true, true, true, false] (L' := [some (.ref v0), some (.int v1), some (.int v2), some (.int v3), some (.int (0 : Int32)), some (.int (v5 + 4)), none]) rfl ?_
        exact hk15 _ _ _ _ _ _ h_v0 (Or.inl rfl) hf
      · have hf := it_f c9 hf
        refine G_aload_n h dX9_peopleKinds_72 (i := 0) rfl rfl rfl ?_
        refine gf_X9_34 h hE dX9_peopleKinds_73 h_v0 rfl ?_
        refine G_iload h dX9_peopleKinds_76 rfl rfl ?_
        obtain ⟨g10, hf⟩ := gd_some hf
        refine G_iald h dX9_peopleKinds_78 ((w_8_14 hE h_v0).2) g10 (jx := (ix v5)) rfl rfl ?_
        refine G_iload_n h dX9_peopleKinds_79 (i := 1) rfl rfl rfl ?_
        refine G_icmp_ne h dX9_peopleKinds_80 (tgt := 88) (by decide) rfl (fun c11 => ?_) (fun c11 => ?_)
        · have hf := it_f c11 hf
          refine G_iconst h dX9_peopleKinds_88 ki_1 rfl ?_
          refine G_goto h dX9_peopleKinds_89 (tgt := 93) (by decide) ?_
          refine G_istore h dX9_peopleKinds_93  (by decide) (L' := [some (.ref v0), some (.int v1), some (.int v2), some (.int v3), some (.int (1 : Int32)), some (.int v5), some (.int x8)]) rfl rfl ?_
          refine G_iinc2 h dX9_peopleKinds_95 rfl ki_4 (by decide) (L' := [some (.ref v0), some (.int v1), some (.int v2), some (.int v3), some (.int (1 : Int32)), some (.int (v5 + 4)), some (.int x8)]) rfl rfl ?_
          refine G_goto h dX9_peopleKinds_98 (tgt := 15) (by decide) ?_
          refine G_mskL [true, true, true, true, true, true, false] (L' := [some (.ref v0), some (.int v1), some (.int v2), some (.int v3), some (.int (1 : Int32)), some (.int (v5 + 4)), none]) rfl ?_
          exact hk15 _ _ _ _ _ _ h_v0 (Or.inr rfl) hf
        · have hf := it_t c11 hf
          refine G_iload h dX9_peopleKinds_83 rfl rfl ?_
          refine G_if_eq h dX9_peopleKinds_85 (tgt := 92) (by decide) rfl (fun c12 => ?_) (fun c12 => ?_)
          · have hf := it_t c12 hf
            refine G_iconst h dX9_peopleKinds_92 ki_0 rfl ?_
            refine G_istore h dX9_peopleKinds_93  (by decide) (L' := [some (.ref v0), some (.int v1), some (.int v2), some (.int v3), some (.int (0 : Int32)), some (.int v5), some (.int x8)]) rfl rfl ?_
            refine G_iinc2 h dX9_peopleKinds_95 rfl ki_4 (by decide) (L' := [some (.ref v0), some (.int v1), some (.int v2), some (.int v3), some (.int (0 : Int32)), some (.int (v5 + 4)), some (.int x8)]) rfl rfl ?_
            refine G_goto h dX9_peopleKinds_98 (tgt := 15) (by decide) ?_
            refine G_mskL [true, true, true, true, true, true, false] (L' := [some (.ref v0), some (.int v1), some (.int v2), some (.int v3), some (.int (0 : Int32)), some (.int (v5 + 4)), none]) rfl ?_
            exact hk15 _ _ _ _ _ _ h_v0 (Or.inl rfl) hf
          · have hf := it_f c12 hf
            refine G_iconst h dX9_peopleKinds_88 ki_1 rfl ?_
            refine G_goto h dX9_peopleKinds_89 (tgt := 93) (by decide) ?_
            refine G_istore h dX9_peopleKinds_93  (by decide) (L' := [some (.ref v0), some (.int v1), some (.int v2), some (.int v3), some (.int (1 : Int32)), some (.int v5), some (.int x8)]) rfl rfl ?_
            refine G_iinc2 h dX9_peopleKinds_95 rfl ki_4 (by decide) (L' := [some (.ref v0), some (.int v1), some (.int v2), some (.int v3), some (.int (1 : Int32)), some (.int (v5 + 4)), some (.int x8)]) rfl rfl ?_
            refine G_goto h dX9_peopleKinds_98 (tgt := 15) (by decide) ?_
            refine G_mskL [true, true, true, true, true, true, false] (L' := [some (.ref v0), some (.int v1), some (.int v2), some (.int v3), some (.int (1 : Int32)), some (.int (v5 + 4)), none]) rfl ?_
            exact hk15 _ _ _ _ _ _ h_v0 (Or.inr rfl) hf
    refine G_icmp_ne h dX9_peopleKinds_57 (tgt := 64) (by decide) rfl (fun c7 => ?_) (fun c7 => ?_)
    · refine G_iconst h dX9_peopleKinds_64 ki_0 rfl ?_
      exact G_ifn c7 hJ
    · refine G_iconst h dX9_peopleKinds_60 ki_1 rfl ?_
      refine G_goto h dX9_peopleKinds_61 (tgt := 65) (by decide) ?_
      exact G_ifp c7 hJ
def f_X9_peopleKinds_L15 (E : Env1) (M : Mem) (k4 : Nat → Int32 → Int32 → Int32 → (Option (Int32))) : Nat → Nat → Int32 → Int32 → Int32 → Int32 → Int32 → (Option (Int32))
  | 0 => fun _ _ _ _ _ _ => none
  | n + 1 => b_X9_peopleKinds_L15 E M k4 (f_X9_peopleKinds_L15 E M k4 n)
theorem o_X9_peopleKinds_L15 {X : Ctx} {l0 : Launch} {E : Env1} (h : Cx X l0 E RX9 cX9_peopleKinds (some .int) 7 rm_X9_peopleKinds) (hE : WF E) {M : Mem} {r : Int32} (hR : RetI X E cX9_peopleKinds r M) {k4 : Nat → Int32 → Int32 → Int32 → (Option (Int32))} (hk4 : ∀ (v0 : Nat) (v1 : Int32) (v2 : Int32) (v3 : Int32), isK E v0 8 → k4 v0 v1 v2 v3 = some r → G X E (0, 0) 4 [some (.ref v0), some (.int v1), some (.int v2), some (.int v3), none, none, none] [] M) : ∀ (n : Nat) (v0 : Nat) (v1 : Int32) (v2 : Int32) (v3 : Int32) (v4 : Int32) (v5 : Int32), isK E v0 8 → (v4 = 0 ∨ v4 = 1) → f_X9_peopleKinds_L15 E M k4 n v0 v1 v2 v3 v4 v5 = some r → G X E (0, 0) 15 [some (.ref v0), some (.int v1), some (.int v2), some (.int v3), some (.int v4), some (.int v5), none] [] M := by
  intro n
  induction n with
  | zero =>
    intro _ _ _ _ _ _ a0 a1 hf
    have h0 : (none : Option (Int32)) = some r := hf
    cases h0
  | succ n ih =>
    intro _ _ _ _ _ _ a0 a1 hf
    exact ob_X9_peopleKinds_L15 h hE hR hk4 ih a0 a1 hf
def b_X9_peopleKinds_L4 (E : Env1) (M : Mem) (k4 : Nat → Int32 → Int32 → Int32 → (Option (Int32))) (v0 : Nat) (v1 : Int32) (v2 : Int32) (v3 : Int32) : Option (Int32) :=
  if (5 : Int32) < v3 then (some v2)
  else (f_X9_peopleKinds_L15 E M k4 FU v0 v1 v2 v3 (1 : Int32) (0 : Int32))
set_option maxRecDepth 100000 in
set_option maxHeartbeats 4000000 in
theorem ob_X9_peopleKinds_L4 {X : Ctx} {l0 : Launch} {E : Env1} (h : Cx X l0 E RX9 cX9_peopleKinds (some .int) 7 rm_X9_peopleKinds) (hE : WF E) {M : Mem} {r : Int32} (hR : RetI X E cX9_peopleKinds r M) {k4 : Nat → Int32 → Int32 → Int32 → (Option (Int32))} (hk4 : ∀ (v0 : Nat) (v1 : Int32) (v2 : Int32) (v3 : Int32), isK E v0 8 → k4 v0 v1 v2 v3 = some r → G X E (0, 0) 4 [some (.ref v0), some (.int v1), some (.int v2), some (.int v3), none, none, none] [] M) {v0 : Nat} {v1 : Int32} {v2 : Int32} {v3 : Int32} (h_v0 : isK E v0 8) (hf : b_X9_peopleKinds_L4 E M k4 v0 v1 v2 v3 = some r) : G X E (0, 0) 4 [some (.ref v0), some (.int v1), some (.int v2), some (.int v3), none, none, none] [] M := by
  unfold b_X9_peopleKinds_L4 at hf
  refine G_iload_n h dX9_peopleKinds_4 (i := 3) rfl rfl rfl ?_
  refine G_iconst h dX9_peopleKinds_5 ki_5 rfl ?_
  refine G_icmp_gt h dX9_peopleKinds_6 (tgt := 122) (by decide) rfl (fun c1 => ?_) (fun c1 => ?_)
  · have hf := it_t c1 hf
    refine G_iload_n h dX9_peopleKinds_122 (i := 2) rfl rfl rfl ?_
    exact roI hR dX9_peopleKinds_123 hf
  · have hf := it_f c1 hf
    refine G_iconst h dX9_peopleKinds_9 ki_1 rfl ?_
    refine G_istore h dX9_peopleKinds_10  (by decide) (L' := [some (.ref v0), some (.int v1), some (.int v2), some (.int v3), some (.int (1 : Int32)), none, none]) rfl rfl ?_
    refine G_iconst h dX9_peopleKinds_12 ki_0 rfl ?_
    refine G_istore h dX9_peopleKinds_13  (by decide) (L' := [some (.ref v0), some (.int v1), some (.int v2), some (.int v3), some (.int (1 : Int32)), some (.int (0 : Int32)), none]) rfl rfl ?_
    exact o_X9_peopleKinds_L15 h hE hR hk4 FU _ _ _ _ _ _ h_v0 (Or.inr rfl) hf
def f_X9_peopleKinds_L4 (E : Env1) (M : Mem) : Nat → Nat → Int32 → Int32 → Int32 → (Option (Int32))
  | 0 => fun _ _ _ _ => none
  | n + 1 => b_X9_peopleKinds_L4 E M (f_X9_peopleKinds_L4 E M n)
theorem o_X9_peopleKinds_L4 {X : Ctx} {l0 : Launch} {E : Env1} (h : Cx X l0 E RX9 cX9_peopleKinds (some .int) 7 rm_X9_peopleKinds) (hE : WF E) {M : Mem} {r : Int32} (hR : RetI X E cX9_peopleKinds r M) : ∀ (n : Nat) (v0 : Nat) (v1 : Int32) (v2 : Int32) (v3 : Int32), isK E v0 8 → f_X9_peopleKinds_L4 E M n v0 v1 v2 v3 = some r → G X E (0, 0) 4 [some (.ref v0), some (.int v1), some (.int v2), some (.int v3), none, none, none] [] M := by
  intro n
  induction n with
  | zero =>
    intro _ _ _ _ a0 hf
    have h0 : (none : Option (Int32)) = some r := hf
    cases h0
  | succ n ih =>
    intro _ _ _ _ a0 hf
    exact ob_X9_peopleKinds_L4 h hE hR  ih a0 hf
def f_X9_peopleKinds (E : Env1) (M : Mem) (v0 : Nat) (v1 : Int32) : Option (Int32) :=
  f_X9_peopleKinds_L4 E M FU v0 v1 (0 : Int32) (0 : Int32)
set_option maxRecDepth 100000 in
set_option maxHeartbeats 4000000 in
theorem ok_X9_peopleKinds {E : Env1} (hE : WF E) (l0 : Launch) {M : Mem} {v0 : Nat} {v1 : Int32} {r : Int32} (h0 : isK E v0 8) (hf : f_X9_peopleKinds E M v0 v1 = some r) : Met l0 yX9_peopleKinds (wsA yX9_peopleKinds cX9_peopleKinds 7 (some .int)) rm_X9_peopleKinds (CP E M [.ref v0, .int v1]) (CQi E r M) 0 0 (eA E) := by
  unfold f_X9_peopleKinds at hf
  refine mtI l0 (by decide +kernel) (Nat.le_of_ble_eq_true rfl) (L0 := [some (.ref v0), some (.int v1), none, none, none, none, none]) rfl (fun X h hR => ?_)
  refine G_iconst h dX9_peopleKinds_0 ki_0 rfl ?_
  refine G_istore_n h dX9_peopleKinds_1 (i := 2) rfl (by decide) (L' := [some (.ref v0), some (.int v1), some (.int (0 : Int32)), none, none, none, none]) rfl rfl ?_
  refine G_iconst h dX9_peopleKinds_2 ki_0 rfl ?_
  refine G_istore_n h dX9_peopleKinds_3 (i := 3) rfl (by decide) (L' := [some (.ref v0), some (.int v1), some (.int (0 : Int32)), some (.int (0 : Int32)), none, none, none]) rfl rfl ?_
  exact o_X9_peopleKinds_L4 h hE hR  FU _ _ _ _ h0 hf
def rm_X9_ask : Room := { frames := 3, cells := 0, slots := 0, locals := 73 }
def b_X9_ask_L29 (E : Env1) (k29 : Mem → Int32 → Int32 → Int32 → Int32 → (Option (Int32 × Mem))) (M : Mem) (v2 : Int32) (v3 : Int32) (v4 : Int32) (v5 : Int32) : Option (Int32 × Mem) :=
  if (240 : Int32) ≤ v5 then (some (v3, M))
  else (
    if v2 = 0 then (some (v3, M))
    else (
      (f_X9_alike E M v2 (0 : Int32) (v5 / (10 : Int32)) ((v5 - v5 / (10 : Int32) * (10 : Int32)) - (1 : Int32))).bind fun x3 =>
      k29 M v2 (if v4 ≤ x3 then v3 else v5) (f_X9_lesser E M v4 x3) (v5 + 1)))
set_option maxRecDepth 100000 in
set_option maxHeartbeats 4000000 in
theorem ob_X9_ask_L29 {X : Ctx} {l0 : Launch} {E : Env1} (h : Cx X l0 E RX9 cX9_ask (some .int) 7 rm_X9_ask) (hE : WF E) {M' : Mem} {r : Int32} (hR : RetI X E cX9_ask r M') {k29 : Mem → Int32 → Int32 → Int32 → Int32 → (Option (Int32 × Mem))} (hk29 : ∀ (M : Mem) (v2 : Int32) (v3 : Int32) (v4 : Int32) (v5 : Int32), k29 M v2 v3 v4 v5 = some (r, M') → G X E (0, 0) 29 [none, none, some (.int v2), some (.int v3), some (.int v4), some (.int v5), none] [] M) {M : Mem} {v2 : Int32} {v3 : Int32} {v4 : Int32} {v5 : Int32}  (hf : b_X9_ask_L29 E k29 M v2 v3 v4 v5 = some (r, M')) : G X E (0, 0) 29 [none, none, some (.int v2), some (.int v3), some (.int v4), some (.int v5), none] [] M := by
  unfold b_X9_ask_L29 at hf
  refine G_iload h dX9_ask_29 rfl rfl ?_
  refine G_sipush h dX9_ask_31 ks_240 rfl ?_
  refine G_icmp_ge h dX9_ask_34 (tgt := 89) (by decide) rfl (fun c1 => ?_) (fun c1 => ?_)
  · have hf := it_t c1 hf
    refine G_iload_n h dX9_ask_89 (i := 3) rfl rfl rfl ?_
    exact pwI hR dX9_ask_90 hf
  · have hf := it_f c1 hf
    refine G_iload_n h dX9_ask_37 (i := 2) rfl rfl rfl ?_
    refine G_if_eq h dX9_ask_38 (tgt := 89) (by decide) rfl (fun c2 => ?_) (fun c2 => ?_)
    · have hf := it_t c2 hf
      refine G_iload_n h dX9_ask_89 (i := 3) rfl rfl rfl ?_
      exact pwI hR dX9_ask_90 hf
    · have hf := it_f c2 hf
      refine G_iload_n h dX9_ask_41 (i := 2) rfl rfl rfl ?_
      refine G_iconst h dX9_ask_42 ki_0 rfl ?_
      refine G_iload h dX9_ask_43 rfl rfl ?_
      refine G_bipush h dX9_ask_45 kb_10 rfl ?_
      refine G_idiv h dX9_ask_47 (by decide) rfl ?_
      refine G_iload h dX9_ask_48 rfl rfl ?_
      refine G_bipush h dX9_ask_50 kb_10 rfl ?_
      refine G_irem h dX9_ask_52 (by decide) rfl ?_
      refine G_iconst h dX9_ask_53 ki_1 rfl ?_
      refine G_isub h dX9_ask_54 rfl ?_
      obtain ⟨x3, hx3, hf⟩ := bd hf
      refine cl_X9_266 h (ok_X9_alike hE _  hx3) dX9_ask_55 (as := [.int v2, .int (0 : Int32), .int (v5 / (10 : Int32)), .int ((v5 - v5 / (10 : Int32) * (10 : Int32)) - (1 : Int32))]) rfl rfl ⟨rfl, rfl, Nat.le_of_ble_eq_true rfl, Nat.le_of_ble_eq_true rfl⟩ rfl (Nat.le_of_ble_eq_true rfl) ?_
      refine G_istore h dX9_ask_58  (by decide) (L' := [none, none, some (.int v2), some (.int v3), some (.int v4), some (.int v5), some (.int x3)]) rfl rfl ?_
      refine G_iload h dX9_ask_60 rfl rfl ?_
      refine G_iload h dX9_ask_62 rfl rfl ?_
      have hJ : G X E (0, 0) 73 [none, none, some (.int v2), some (.int v3), some (.int v4), some (.int v5), some (.int x3)] [.int (if v4 ≤ x3 then v3 else v5)] M := by
        refine G_istore_n h dX9_ask_73 (i := 3) rfl (by decide) (L' := [none, none, some (.int v2), some (.int (if v4 ≤ x3 then v3 else v5)), some (.int v4), some (.int v5), some (.int x3)]) rfl rfl ?_
        refine G_iload h dX9_ask_74 rfl rfl ?_
        refine G_iload h dX9_ask_76 rfl rfl ?_
        refine cl_X9_179 h (ok_X9_lesser hE _  (r := f_X9_lesser E M v4 x3) rfl) dX9_ask_78 (as := [.int v4, .int x3]) rfl rfl ⟨rfl, rfl, Nat.le_of_ble_eq_true rfl, Nat.le_of_ble_eq_true rfl⟩ rfl (Nat.le_of_ble_eq_true rfl) ?_
        refine G_istore h dX9_ask_81  (by decide) (L' := [none, none, some (.int v2), some (.int (if v4 ≤ x3 then v3 else v5)), some (.int (f_X9_lesser E M v4 x3)), some (.int v5), some (.int x3)]) rfl rfl ?_
        refine G_iinc2 h dX9_ask_83 rfl ki_1 (by decide) (L' := [none, none, some (.int v2), some (.int (if v4 ≤ x3 then v3 else v5)), some (.int (f_X9_lesser E M v4 x3)), some (.int (v5 + 1)), some (.int x3)]) rfl rfl ?_
        refine G_goto h dX9_ask_86 (tgt := 29) (by decide) ?_
        refine G_mskL [false, false, true, true, true, true, false] (L' := [none, none, some (.int v2), some (.int (if v4 ≤ x3 then v3 else v5)), some (.int (f_X9_lesser E M v4 x3)), some (.int (v5 + 1)), none]) rfl ?_
        exact hk29 _ _ _ _ _ hf
      refine G_icmp_ge h dX9_ask_64 (tgt := 72) (by decide) rfl (fun c4 => ?_) (fun c4 => ?_)
      · refine G_iload_n h dX9_ask_72 (i := 3) rfl rfl rfl ?_
        exact G_ifp c4 hJ
      · refine G_iload h dX9_ask_67 rfl rfl ?_
        refine G_goto h dX9_ask_69 (tgt := 73) (by decide) ?_
        exact G_ifn c4 hJ
def f_X9_ask_L29 (E : Env1) : Nat → Mem → Int32 → Int32 → Int32 → Int32 → (Option (Int32 × Mem))
  | 0 => fun _ _ _ _ _ => none
  | n + 1 => b_X9_ask_L29 E (f_X9_ask_L29 E n)
theorem o_X9_ask_L29 {X : Ctx} {l0 : Launch} {E : Env1} (h : Cx X l0 E RX9 cX9_ask (some .int) 7 rm_X9_ask) (hE : WF E) {M' : Mem} {r : Int32} (hR : RetI X E cX9_ask r M') : ∀ (n : Nat) (M : Mem) (v2 : Int32) (v3 : Int32) (v4 : Int32) (v5 : Int32), f_X9_ask_L29 E n M v2 v3 v4 v5 = some (r, M') → G X E (0, 0) 29 [none, none, some (.int v2), some (.int v3), some (.int v4), some (.int v5), none] [] M := by
  intro n
  induction n with
  | zero =>
    intro _ _ _ _ _  hf
    have h0 : (none : Option (Int32 × Mem)) = some (r, M') := hf
    cases h0
  | succ n ih =>
    intro _ _ _ _ _  hf
    exact ob_X9_ask_L29 h hE hR  ih  hf
def f_X9_ask (E : Env1) (M : Mem) (v0 : Nat) (v1 : Int32) : Option (Int32 × Mem) :=
  if (f_X9_isOne E M v0 v1) = 0 then (
    nm (f_X9_bad E M v0) fun x4 =>
    some (x4.1, x4.2))
  else (
    (f_X9_peopleKinds E M v0 v1).bind fun x3 =>
    f_X9_ask_L29 E FU M x3 (-1 : Int32) (1048576 : Int32) (0 : Int32))
set_option maxRecDepth 100000 in
set_option maxHeartbeats 4000000 in
theorem ok_X9_ask {E : Env1} (hE : WF E) (l0 : Launch) {M : Mem} {M' : Mem} {v0 : Nat} {v1 : Int32} {r : Int32} (h0 : isK E v0 8) (hf : f_X9_ask E M v0 v1 = some (r, M')) : Met l0 yX9_ask (wsA yX9_ask cX9_ask 7 (some .int)) rm_X9_ask (CP E M [.ref v0, .int v1]) (CQi E r M') 0 0 (eA E) := by
  unfold f_X9_ask at hf
  refine mtI l0 (by decide +kernel) (Nat.le_of_ble_eq_true rfl) (L0 := [some (.ref v0), some (.int v1), none, none, none, none, none]) rfl (fun X h hR => ?_)
  refine G_aload_n h dX9_ask_0 (i := 0) rfl rfl rfl ?_
  refine G_iload_n h dX9_ask_1 (i := 1) rfl rfl rfl ?_
  refine cl_X9_216 h (ok_X9_isOne hE _ h0 (r := f_X9_isOne E M v0 v1) rfl) dX9_ask_2 h0 (as := [.int v1]) rfl rfl ⟨rfl, rfl, Nat.le_of_ble_eq_true rfl, Nat.le_of_ble_eq_true rfl⟩ rfl (Nat.le_of_ble_eq_true rfl) (fun z1 => ?_)
  refine G_if_ne h dX9_ask_5 (tgt := 13) (by decide) rfl (fun c2 => ?_) (fun c2 => ?_)
  · have hf := it_f c2 hf
    refine G_aload_n h dX9_ask_13 (i := 0) rfl rfl rfl ?_
    refine G_iload_n h dX9_ask_14 (i := 1) rfl rfl rfl ?_
    obtain ⟨x3, hx3, hf⟩ := bd hf
    refine cl_X9_259 h (ok_X9_peopleKinds hE _ h0 hx3) dX9_ask_15 h0 (as := [.int v1]) rfl rfl ⟨rfl, rfl, Nat.le_of_ble_eq_true rfl, Nat.le_of_ble_eq_true rfl⟩ rfl (Nat.le_of_ble_eq_true rfl) ?_
    refine G_istore_n h dX9_ask_18 (i := 2) rfl (by decide) (L' := [some (.ref v0), some (.int v1), some (.int x3), none, none, none, none]) rfl rfl ?_
    refine G_iconst h dX9_ask_19 ki_m1 rfl ?_
    refine G_istore_n h dX9_ask_20 (i := 3) rfl (by decide) (L' := [some (.ref v0), some (.int v1), some (.int x3), some (.int (-1 : Int32)), none, none, none]) rfl rfl ?_
    refine G_ldcw h q1322 dX9_ask_21 rfl ?_
    refine G_istore h dX9_ask_24  (by decide) (L' := [some (.ref v0), some (.int v1), some (.int x3), some (.int (-1 : Int32)), some (.int (1048576 : Int32)), none, none]) rfl rfl ?_
    refine G_iconst h dX9_ask_26 ki_0 rfl ?_
    refine G_istore h dX9_ask_27  (by decide) (L' := [some (.ref v0), some (.int v1), some (.int x3), some (.int (-1 : Int32)), some (.int (1048576 : Int32)), some (.int (0 : Int32)), none]) rfl rfl ?_
    refine G_mskL [false, false, true, true, true, true, false] (L' := [none, none, some (.int x3), some (.int (-1 : Int32)), some (.int (1048576 : Int32)), some (.int (0 : Int32)), none]) rfl ?_
    exact o_X9_ask_L29 h hE hR  FU _ _ _ _ _ hf
  · have hf := it_t c2 hf
    refine G_aload_n h dX9_ask_8 (i := 0) rfl rfl rfl ?_
    obtain ⟨x4, hx4⟩ : ∃ x, x = f_X9_bad E M v0 := ⟨_, rfl⟩
    have hf := nm_eq hx4 hf
    refine cl_X9_95 h (ok_X9_bad hE _ h0 hx4.symm) dX9_ask_9 h0 (as := []) rfl rfl ⟨rfl, rfl, Nat.le_of_ble_eq_true rfl, Nat.le_of_ble_eq_true rfl⟩ rfl (Nat.le_of_ble_eq_true rfl) ?_
    exact pwI hR dX9_ask_12 hf
def rm_X9_dayMinute : Room := { frames := 0, cells := 0, slots := 0, locals := 0 }
def f_X9_dayMinute (E : Env1) (M : Mem) (v0 : Nat) : Int32 :=
  (mi M v0 2) - (mi M v0 2) / (24 : Int32) * (24 : Int32)
set_option maxRecDepth 100000 in
set_option maxHeartbeats 4000000 in
theorem ok_X9_dayMinute {E : Env1} (hE : WF E) (l0 : Launch) {M : Mem} {v0 : Nat} {r : Int32} (h0 : isK E v0 8) (hf : f_X9_dayMinute E M v0 = r) : Met l0 yX9_dayMinute (wsA yX9_dayMinute cX9_dayMinute 1 (some .int)) rm_X9_dayMinute (CP E M [.ref v0]) (CQi E r M) 0 0 (eA E) := by
  unfold f_X9_dayMinute at hf
  refine mtI l0 (by decide +kernel) (Nat.le_of_ble_eq_true rfl) (L0 := [some (.ref v0)]) rfl (fun X h hR => ?_)
  refine G_aload_n h dX9_dayMinute_0 (i := 0) rfl rfl rfl ?_
  refine gf_X9_73 h dX9_dayMinute_1 h0 rfl ?_
  refine G_bipush h dX9_dayMinute_4 kb_24 rfl ?_
  refine G_irem h dX9_dayMinute_6 (by decide) rfl ?_
  exact toI hR dX9_dayMinute_7 hf
def rm_X9_wants : Room := { frames := 2, cells := 0, slots := 0, locals := 44 }
def f_X9_wants (E : Env1) (M : Mem) (v0 : Nat) (v1 : Int32) (v2 : Int32) (v3 : Int32) : Option (Int32) :=
  gd v2 8 (gd v1 6 (some (f_X9_wantsBy E M (mi M (rr E v0 11) (ix v2)) (mi M (rr E v0 8) (ix v1)) v3)))
set_option maxRecDepth 100000 in
set_option maxHeartbeats 4000000 in
theorem ok_X9_wants {E : Env1} (hE : WF E) (l0 : Launch) {M : Mem} {v0 : Nat} {v1 : Int32} {v2 : Int32} {v3 : Int32} {r : Int32} (h0 : isK E v0 8) (hf : f_X9_wants E M v0 v1 v2 v3 = some r) : Met l0 yX9_wants (wsA yX9_wants cX9_wants 4 (some .int)) rm_X9_wants (CP E M [.ref v0, .int v1, .int v2, .int v3]) (CQi E r M) 0 0 (eA E) := by
  unfold f_X9_wants at hf
  refine mtI l0 (by decide +kernel) (Nat.le_of_ble_eq_true rfl) (L0 := [some (.ref v0), some (.int v1), some (.int v2), some (.int v3)]) rfl (fun X h hR => ?_)
  refine G_aload_n h dX9_wants_0 (i := 0) rfl rfl rfl ?_
  refine gf_X9_25 h hE dX9_wants_1 h0 rfl ?_
  refine G_iload_n h dX9_wants_4 (i := 2) rfl rfl rfl ?_
  obtain ⟨g1, hf⟩ := gd_some hf
  refine G_iald h dX9_wants_5 ((w_8_11 hE h0).2) g1 (jx := (ix v2)) rfl rfl ?_
  refine G_aload_n h dX9_wants_6 (i := 0) rfl rfl rfl ?_
  refine gf_X9_16 h hE dX9_wants_7 h0 rfl ?_
  refine G_iload_n h dX9_wants_10 (i := 1) rfl rfl rfl ?_
  obtain ⟨g2, hf⟩ := gd_some hf
  refine G_iald h dX9_wants_11 ((w_8_8 hE h0).2) g2 (jx := (ix v1)) rfl rfl ?_
  refine G_iload_n h dX9_wants_12 (i := 3) rfl rfl rfl ?_
  refine cl_X9_182 h (ok_X9_wantsBy hE _  (r := f_X9_wantsBy E M (mi M (rr E v0 11) (ix v2)) (mi M (rr E v0 8) (ix v1)) v3) rfl) dX9_wants_13 (as := [.int (mi M (rr E v0 11) (ix v2)), .int (mi M (rr E v0 8) (ix v1)), .int v3]) rfl rfl ⟨rfl, rfl, Nat.le_of_ble_eq_true rfl, Nat.le_of_ble_eq_true rfl⟩ rfl (Nat.le_of_ble_eq_true rfl) ?_
  exact roI hR dX9_wants_16 hf
def rm_X9_worth : Room := { frames := 1, cells := 0, slots := 0, locals := 22 }
def f_X9_worth (E : Env1) (M : Mem) (v0 : Nat) (v1 : Int32) (v2 : Int32) : Option (Int32) :=
  gd v1 6 (some (f_X9_worthBy E M (mi M (rr E v0 7) (ix v1)) v2 (mi M (rr E v0 9) (ix v1))))
set_option maxRecDepth 100000 in
set_option maxHeartbeats 4000000 in
theorem ok_X9_worth {E : Env1} (hE : WF E) (l0 : Launch) {M : Mem} {v0 : Nat} {v1 : Int32} {v2 : Int32} {r : Int32} (h0 : isK E v0 8) (hf : f_X9_worth E M v0 v1 v2 = some r) : Met l0 yX9_worth (wsA yX9_worth cX9_worth 3 (some .int)) rm_X9_worth (CP E M [.ref v0, .int v1, .int v2]) (CQi E r M) 0 0 (eA E) := by
  unfold f_X9_worth at hf
  refine mtI l0 (by decide +kernel) (Nat.le_of_ble_eq_true rfl) (L0 := [some (.ref v0), some (.int v1), some (.int v2)]) rfl (fun X h hR => ?_)
  refine G_aload_n h dX9_worth_0 (i := 0) rfl rfl rfl ?_
  refine gf_X9_13 h hE dX9_worth_1 h0 rfl ?_
  refine G_iload_n h dX9_worth_4 (i := 1) rfl rfl rfl ?_
  obtain ⟨g1, hf⟩ := gd_some hf
  refine G_iald h dX9_worth_5 ((w_8_7 hE h0).2) g1 (jx := (ix v1)) rfl rfl ?_
  refine G_iload_n h dX9_worth_6 (i := 2) rfl rfl rfl ?_
  refine G_aload_n h dX9_worth_7 (i := 0) rfl rfl rfl ?_
  refine gf_X9_19 h hE dX9_worth_8 h0 rfl ?_
  refine G_iload_n h dX9_worth_11 (i := 1) rfl rfl rfl ?_
  refine G_iald h dX9_worth_12 ((w_8_9 hE h0).2) g1 (jx := (ix v1)) rfl rfl ?_
  refine cl_X9_186 h (ok_X9_worthBy hE _  (r := f_X9_worthBy E M (mi M (rr E v0 7) (ix v1)) v2 (mi M (rr E v0 9) (ix v1))) rfl) dX9_worth_13 (as := [.int (mi M (rr E v0 7) (ix v1)), .int v2, .int (mi M (rr E v0 9) (ix v1))]) rfl rfl ⟨rfl, rfl, Nat.le_of_ble_eq_true rfl, Nat.le_of_ble_eq_true rfl⟩ rfl (Nat.le_of_ble_eq_true rfl) ?_
  exact roI hR dX9_worth_16 hf
def rm_X9_wordFor : Room := { frames := 2, cells := 0, slots := 0, locals := 44 }
def b_X9_wordFor_L6 (E : Env1) (M : Mem) (k6 : Nat → Int32 → Int32 → Int32 → Int32 → Int32 → (Option (Int32))) (v0 : Nat) (v1 : Int32) (v2 : Int32) (v3 : Int32) (v4 : Int32) (v5 : Int32) : Option (Int32) :=
  if (mi M v0 1) ≤ v5 then (some v4)
  else (
    if v5 = v1 then (k6 v0 v1 v2 v3 (v4 + (0 : Int32)) (v5 + 1))
    else (
      gd v5 6 (if (f_X9_has E M (mi M (rr E v0 10) (ix v5)) v2) = 0 then (k6 v0 v1 v2 v3 (v4 + (0 : Int32)) (v5 + 1))
      else (
        (f_X9_worth E M v0 v5 v3).bind fun x6 =>
        k6 v0 v1 v2 v3 (v4 + x6) (v5 + 1)))))
set_option maxRecDepth 100000 in
set_option maxHeartbeats 4000000 in
theorem ob_X9_wordFor_L6 {X : Ctx} {l0 : Launch} {E : Env1} (h : Cx X l0 E RX9 cX9_wordFor (some .int) 6 rm_X9_wordFor) (hE : WF E) {M : Mem} {r : Int32} (hR : RetI X E cX9_wordFor r M) {k6 : Nat → Int32 → Int32 → Int32 → Int32 → Int32 → (Option (Int32))} (hk6 : ∀ (v0 : Nat) (v1 : Int32) (v2 : Int32) (v3 : Int32) (v4 : Int32) (v5 : Int32), isK E v0 8 → k6 v0 v1 v2 v3 v4 v5 = some r → G X E (0, 0) 6 [some (.ref v0), some (.int v1), some (.int v2), some (.int v3), some (.int v4), some (.int v5)] [] M) {v0 : Nat} {v1 : Int32} {v2 : Int32} {v3 : Int32} {v4 : Int32} {v5 : Int32} (h_v0 : isK E v0 8) (hf : b_X9_wordFor_L6 E M k6 v0 v1 v2 v3 v4 v5 = some r) : G X E (0, 0) 6 [some (.ref v0), some (.int v1), some (.int v2), some (.int v3), some (.int v4), some (.int v5)] [] M := by
  unfold b_X9_wordFor_L6 at hf
  refine G_iload h dX9_wordFor_6 rfl rfl ?_
  refine G_aload_n h dX9_wordFor_8 (i := 0) rfl rfl rfl ?_
  refine gf_X9_69 h dX9_wordFor_9 h_v0 rfl ?_
  refine G_icmp_ge h dX9_wordFor_12 (tgt := 57) (by decide) rfl (fun c1 => ?_) (fun c1 => ?_)
  · have hf := it_t c1 hf
    refine G_iload h dX9_wordFor_57 rfl rfl ?_
    exact roI hR dX9_wordFor_59 hf
  · have hf := it_f c1 hf
    refine G_iload h dX9_wordFor_15 rfl rfl ?_
    refine G_iload h dX9_wordFor_17 rfl rfl ?_
    refine G_iload_n h dX9_wordFor_19 (i := 1) rfl rfl rfl ?_
    refine G_icmp_eq h dX9_wordFor_20 (tgt := 47) (by decide) rfl (fun c2 => ?_) (fun c2 => ?_)
    · have hf := it_t c2 hf
      refine G_iconst h dX9_wordFor_47 ki_0 rfl ?_
      refine G_iadd h dX9_wordFor_48 rfl ?_
      refine G_istore h dX9_wordFor_49  (by decide) (L' := [some (.ref v0), some (.int v1), some (.int v2), some (.int v3), some (.int (v4 + (0 : Int32))), some (.int v5)]) rfl rfl ?_
      refine G_iinc2 h dX9_wordFor_51 rfl ki_1 (by decide) (L' := [some (.ref v0), some (.int v1), some (.int v2), some (.int v3), some (.int (v4 + (0 : Int32))), some (.int (v5 + 1))]) rfl rfl ?_
      refine G_goto h dX9_wordFor_54 (tgt := 6) (by decide) ?_
      exact hk6 _ _ _ _ _ _ h_v0 hf
    · have hf := it_f c2 hf
      refine G_aload_n h dX9_wordFor_23 (i := 0) rfl rfl rfl ?_
      refine gf_X9_22 h hE dX9_wordFor_24 h_v0 rfl ?_
      refine G_iload h dX9_wordFor_27 rfl rfl ?_
      obtain ⟨g3, hf⟩ := gd_some hf
      refine G_iald h dX9_wordFor_29 ((w_8_10 hE h_v0).2) g3 (jx := (ix v5)) rfl rfl ?_
      refine G_iload_n h dX9_wordFor_30 (i := 2) rfl rfl rfl ?_
      refine cl_X9_189 h (ok_X9_has hE _  (r := f_X9_has E M (mi M (rr E v0 10) (ix v5)) v2) rfl) dX9_wordFor_31 (as := [.int (mi M (rr E v0 10) (ix v5)), .int v2]) rfl rfl ⟨rfl, rfl, Nat.le_of_ble_eq_true rfl, Nat.le_of_ble_eq_true rfl⟩ rfl (Nat.le_of_ble_eq_true rfl) (fun z4 => ?_)
      refine G_if_eq h dX9_wordFor_34 (tgt := 47) (by decide) rfl (fun c5 => ?_) (fun c5 => ?_)
      · have hf := it_t c5 hf
        refine G_iconst h dX9_wordFor_47 ki_0 rfl ?_
        refine G_iadd h dX9_wordFor_48 rfl ?_
        refine G_istore h dX9_wordFor_49  (by decide) (L' := [some (.ref v0), some (.int v1), some (.int v2), some (.int v3), some (.int (v4 + (0 : Int32))), some (.int v5)]) rfl rfl ?_
        refine G_iinc2 h dX9_wordFor_51 rfl ki_1 (by decide) (L' := [some (.ref v0), some (.int v1), some (.int v2), some (.int v3), some (.int (v4 + (0 : Int32))), some (.int (v5 + 1))]) rfl rfl ?_
        refine G_goto h dX9_wordFor_54 (tgt := 6) (by decide) ?_
        exact hk6 _ _ _ _ _ _ h_v0 hf
      · have hf := it_f c5 hf
        refine G_aload_n h dX9_wordFor_37 (i := 0) rfl rfl rfl ?_
        refine G_iload h dX9_wordFor_38 rfl rfl ?_
        refine G_iload_n h dX9_wordFor_40 (i := 3) rfl rfl rfl ?_
        obtain ⟨x6, hx6, hf⟩ := bd hf
        refine cl_X9_192 h (ok_X9_worth hE _ h_v0 hx6) dX9_wordFor_41 h_v0 (as := [.int v5, .int v3]) rfl rfl ⟨rfl, rfl, Nat.le_of_ble_eq_true rfl, Nat.le_of_ble_eq_true rfl⟩ rfl (Nat.le_of_ble_eq_true rfl) ?_
        refine G_goto h dX9_wordFor_44 (tgt := 48) (by decide) ?_
        refine G_iadd h dX9_wordFor_48 rfl ?_
        refine G_istore h dX9_wordFor_49  (by decide) (L' := [some (.ref v0), some (.int v1), some (.int v2), some (.int v3), some (.int (v4 + x6)), some (.int v5)]) rfl rfl ?_
        refine G_iinc2 h dX9_wordFor_51 rfl ki_1 (by decide) (L' := [some (.ref v0), some (.int v1), some (.int v2), some (.int v3), some (.int (v4 + x6)), some (.int (v5 + 1))]) rfl rfl ?_
        refine G_goto h dX9_wordFor_54 (tgt := 6) (by decide) ?_
        exact hk6 _ _ _ _ _ _ h_v0 hf
def f_X9_wordFor_L6 (E : Env1) (M : Mem) : Nat → Nat → Int32 → Int32 → Int32 → Int32 → Int32 → (Option (Int32))
  | 0 => fun _ _ _ _ _ _ => none
  | n + 1 => b_X9_wordFor_L6 E M (f_X9_wordFor_L6 E M n)
theorem o_X9_wordFor_L6 {X : Ctx} {l0 : Launch} {E : Env1} (h : Cx X l0 E RX9 cX9_wordFor (some .int) 6 rm_X9_wordFor) (hE : WF E) {M : Mem} {r : Int32} (hR : RetI X E cX9_wordFor r M) : ∀ (n : Nat) (v0 : Nat) (v1 : Int32) (v2 : Int32) (v3 : Int32) (v4 : Int32) (v5 : Int32), isK E v0 8 → f_X9_wordFor_L6 E M n v0 v1 v2 v3 v4 v5 = some r → G X E (0, 0) 6 [some (.ref v0), some (.int v1), some (.int v2), some (.int v3), some (.int v4), some (.int v5)] [] M := by
  intro n
  induction n with
  | zero =>
    intro _ _ _ _ _ _ a0 hf
    have h0 : (none : Option (Int32)) = some r := hf
    cases h0
  | succ n ih =>
    intro _ _ _ _ _ _ a0 hf
    exact ob_X9_wordFor_L6 h hE hR  ih a0 hf
def f_X9_wordFor (E : Env1) (M : Mem) (v0 : Nat) (v1 : Int32) (v2 : Int32) (v3 : Int32) : Option (Int32) :=
  f_X9_wordFor_L6 E M FU v0 v1 v2 v3 (0 : Int32) (0 : Int32)
set_option maxRecDepth 100000 in
set_option maxHeartbeats 4000000 in
theorem ok_X9_wordFor {E : Env1} (hE : WF E) (l0 : Launch) {M : Mem} {v0 : Nat} {v1 : Int32} {v2 : Int32} {v3 : Int32} {r : Int32} (h0 : isK E v0 8) (hf : f_X9_wordFor E M v0 v1 v2 v3 = some r) : Met l0 yX9_wordFor (wsA yX9_wordFor cX9_wordFor 6 (some .int)) rm_X9_wordFor (CP E M [.ref v0, .int v1, .int v2, .int v3]) (CQi E r M) 0 0 (eA E) := by
  unfold f_X9_wordFor at hf
  refine mtI l0 (by decide +kernel) (Nat.le_of_ble_eq_true rfl) (L0 := [some (.ref v0), some (.int v1), some (.int v2), some (.int v3), none, none]) rfl (fun X h hR => ?_)
  refine G_iconst h dX9_wordFor_0 ki_0 rfl ?_
  refine G_istore h dX9_wordFor_1  (by decide) (L' := [some (.ref v0), some (.int v1), some (.int v2), some (.int v3), some (.int (0 : Int32)), none]) rfl rfl ?_
  refine G_iconst h dX9_wordFor_3 ki_0 rfl ?_
  refine G_istore h dX9_wordFor_4  (by decide) (L' := [some (.ref v0), some (.int v1), some (.int v2), some (.int v3), some (.int (0 : Int32)), some (.int (0 : Int32))]) rfl rfl ?_
  exact o_X9_wordFor_L6 h hE hR  FU _ _ _ _ _ _ h0 hf
def rm_X9_mayMeet : Room := { frames := 3, cells := 0, slots := 0, locals := 69 }
def f_X9_mayMeet (E : Env1) (M : Mem) (v0 : Nat) (v1 : Int32) (v2 : Int32) (v3 : Int32) : Option (Int32) :=
  (f_X9_wordFor E M v0 v1 v2 v3).bind fun x1 =>
  (f_X9_wants E M v0 v1 v2 v3).bind fun x2 =>
  some (if x1 < x2 then (0 : Int32) else (1 : Int32))
set_option maxRecDepth 100000 in
set_option maxHeartbeats 4000000 in
theorem ok_X9_mayMeet {E : Env1} (hE : WF E) (l0 : Launch) {M : Mem} {v0 : Nat} {v1 : Int32} {v2 : Int32} {v3 : Int32} {r : Int32} (h0 : isK E v0 8) (hf : f_X9_mayMeet E M v0 v1 v2 v3 = some r) : Met l0 yX9_mayMeet (wsA yX9_mayMeet cX9_mayMeet 4 (some .boolean)) rm_X9_mayMeet (CP E M [.ref v0, .int v1, .int v2, .int v3]) (CQz E r M) 0 0 (eA E) := by
  unfold f_X9_mayMeet at hf
  refine mtZ l0 (by decide +kernel) (Nat.le_of_ble_eq_true rfl) (L0 := [some (.ref v0), some (.int v1), some (.int v2), some (.int v3)]) rfl (fun X h hR => ?_)
  refine G_aload_n h dX9_mayMeet_0 (i := 0) rfl rfl rfl ?_
  refine G_iload_n h dX9_mayMeet_1 (i := 1) rfl rfl rfl ?_
  refine G_iload_n h dX9_mayMeet_2 (i := 2) rfl rfl rfl ?_
  refine G_iload_n h dX9_mayMeet_3 (i := 3) rfl rfl rfl ?_
  obtain ⟨x1, hx1, hf⟩ := bd hf
  refine cl_X9_195 h (ok_X9_wordFor hE _ h0 hx1) dX9_mayMeet_4 h0 (as := [.int v1, .int v2, .int v3]) rfl rfl ⟨rfl, rfl, Nat.le_of_ble_eq_true rfl, Nat.le_of_ble_eq_true rfl⟩ rfl (Nat.le_of_ble_eq_true rfl) ?_
  refine G_aload_n h dX9_mayMeet_7 (i := 0) rfl rfl rfl ?_
  refine G_iload_n h dX9_mayMeet_8 (i := 1) rfl rfl rfl ?_
  refine G_iload_n h dX9_mayMeet_9 (i := 2) rfl rfl rfl ?_
  refine G_iload_n h dX9_mayMeet_10 (i := 3) rfl rfl rfl ?_
  obtain ⟨x2, hx2, hf⟩ := bd hf
  refine cl_X9_198 h (ok_X9_wants hE _ h0 hx2) dX9_mayMeet_11 h0 (as := [.int v1, .int v2, .int v3]) rfl rfl ⟨rfl, rfl, Nat.le_of_ble_eq_true rfl, Nat.le_of_ble_eq_true rfl⟩ rfl (Nat.le_of_ble_eq_true rfl) ?_
  have hJ : G X E (0, 0) 22 [some (.ref v0), some (.int v1), some (.int v2), some (.int v3)] [.int (if x1 < x2 then (0 : Int32) else (1 : Int32))] M := by
    exact roZ hR dX9_mayMeet_22 (ite_01 (Or.inl rfl) (Or.inr rfl)) hf
  refine G_icmp_lt h dX9_mayMeet_14 (tgt := 21) (by decide) rfl (fun c3 => ?_) (fun c3 => ?_)
  · refine G_iconst h dX9_mayMeet_21 ki_0 rfl ?_
    exact G_ifp c3 hJ
  · refine G_iconst h dX9_mayMeet_17 ki_1 rfl ?_
    refine G_goto h dX9_mayMeet_18 (tgt := 22) (by decide) ?_
    exact G_ifn c3 hJ
def rm_X9_asks : Room := { frames := 4, cells := 0, slots := 0, locals := 92 }
def f_X9_asks (E : Env1) (M : Mem) (v0 : Nat) (v1 : Int32) (v2 : Int32) (v3 : Int32) : Option (Int32 × Mem) :=
  if (f_X9_isOne E M v0 v1) = 0 then (
    nm (f_X9_bad E M v0) fun x3 =>
    some (x3.1, x3.2))
  else (
    if (f_X9_isStep E M v2) = 0 then (
      nm (f_X9_bad E M v0) fun x6 =>
      some (x6.1, x6.2))
    else (
      if (f_X9_in E M v3 (0 : Int32) (2 : Int32)) = 0 then (
        nm (f_X9_bad E M v0) fun x19 =>
        some (x19.1, x19.2))
      else (
        if v3 = 0 then (
          (f_X9_wants E M v0 v1 v2 (f_X9_dayMinute E M v0)).bind fun x18 =>
          some (x18, M))
        else (
          if v3 = (1 : Int32) then (
            (f_X9_wordFor E M v0 v1 v2 (f_X9_dayMinute E M v0)).bind fun x17 =>
            some (x17, M))
          else (
            gd v1 6 (if (f_X9_has E M (mi M (rr E v0 10) (ix v1)) v2) = 0 then (
              (f_X9_mayMeet E M v0 v1 v2 (f_X9_dayMinute E M v0)).bind fun x15 =>
              if x15 = 0 then (some ((0 : Int32), M))
              else (some ((1 : Int32), M)))
            else (some ((1 : Int32), M))))))))
set_option maxRecDepth 100000 in
set_option maxHeartbeats 4000000 in
theorem ok_X9_asks {E : Env1} (hE : WF E) (l0 : Launch) {M : Mem} {M' : Mem} {v0 : Nat} {v1 : Int32} {v2 : Int32} {v3 : Int32} {r : Int32} (h0 : isK E v0 8) (hf : f_X9_asks E M v0 v1 v2 v3 = some (r, M')) : Met l0 yX9_asks (wsA yX9_asks cX9_asks 5 (some .int)) rm_X9_asks (CP E M [.ref v0, .int v1, .int v2, .int v3]) (CQi E r M') 0 0 (eA E) := by
  unfold f_X9_asks at hf
  refine mtI l0 (by decide +kernel) (Nat.le_of_ble_eq_true rfl) (L0 := [some (.ref v0), some (.int v1), some (.int v2), some (.int v3), none]) rfl (fun X h hR => ?_)
  refine G_aload_n h dX9_asks_0 (i := 0) rfl rfl rfl ?_
  refine G_iload_n h dX9_asks_1 (i := 1) rfl rfl rfl ?_
  refine cl_X9_216 h (ok_X9_isOne hE _ h0 (r := f_X9_isOne E M v0 v1) rfl) dX9_asks_2 h0 (as := [.int v1]) rfl rfl ⟨rfl, rfl, Nat.le_of_ble_eq_true rfl, Nat.le_of_ble_eq_true rfl⟩ rfl (Nat.le_of_ble_eq_true rfl) (fun z1 => ?_)
  refine G_if_eq h dX9_asks_5 (tgt := 24) (by decide) rfl (fun c2 => ?_) (fun c2 => ?_)
  · have hf := it_t c2 hf
    refine G_aload_n h dX9_asks_24 (i := 0) rfl rfl rfl ?_
    obtain ⟨x3, hx3⟩ : ∃ x, x = f_X9_bad E M v0 := ⟨_, rfl⟩
    have hf := nm_eq hx3 hf
    refine cl_X9_95 h (ok_X9_bad hE _ h0 hx3.symm) dX9_asks_25 h0 (as := []) rfl rfl ⟨rfl, rfl, Nat.le_of_ble_eq_true rfl, Nat.le_of_ble_eq_true rfl⟩ rfl (Nat.le_of_ble_eq_true rfl) ?_
    exact pwI hR dX9_asks_28 hf
  · have hf := it_f c2 hf
    refine G_iload_n h dX9_asks_8 (i := 2) rfl rfl rfl ?_
    refine cl_X9_219 h (ok_X9_isStep hE _  (r := f_X9_isStep E M v2) rfl) dX9_asks_9 (as := [.int v2]) rfl rfl ⟨rfl, rfl, Nat.le_of_ble_eq_true rfl, Nat.le_of_ble_eq_true rfl⟩ rfl (Nat.le_of_ble_eq_true rfl) (fun z4 => ?_)
    refine G_if_eq h dX9_asks_12 (tgt := 24) (by decide) rfl (fun c5 => ?_) (fun c5 => ?_)
    · have hf := it_t c5 hf
      refine G_aload_n h dX9_asks_24 (i := 0) rfl rfl rfl ?_
      obtain ⟨x6, hx6⟩ : ∃ x, x = f_X9_bad E M v0 := ⟨_, rfl⟩
      have hf := nm_eq hx6 hf
      refine cl_X9_95 h (ok_X9_bad hE _ h0 hx6.symm) dX9_asks_25 h0 (as := []) rfl rfl ⟨rfl, rfl, Nat.le_of_ble_eq_true rfl, Nat.le_of_ble_eq_true rfl⟩ rfl (Nat.le_of_ble_eq_true rfl) ?_
      exact pwI hR dX9_asks_28 hf
    · have hf := it_f c5 hf
      refine G_iload_n h dX9_asks_15 (i := 3) rfl rfl rfl ?_
      refine G_iconst h dX9_asks_16 ki_0 rfl ?_
      refine G_iconst h dX9_asks_17 ki_2 rfl ?_
      refine cl_X9_91 h (ok_X9_in hE _  (r := f_X9_in E M v3 (0 : Int32) (2 : Int32)) rfl) dX9_asks_18 (as := [.int v3, .int (0 : Int32), .int (2 : Int32)]) rfl rfl ⟨rfl, rfl, Nat.le_of_ble_eq_true rfl, Nat.le_of_ble_eq_true rfl⟩ rfl (Nat.le_of_ble_eq_true rfl) (fun z7 => ?_)
      refine G_if_ne h dX9_asks_21 (tgt := 29) (by decide) rfl (fun c8 => ?_) (fun c8 => ?_)
      · have hf := it_f c8 hf
        refine G_aload_n h dX9_asks_29 (i := 0) rfl rfl rfl ?_
        refine cl_X9_210 h (ok_X9_dayMinute hE _ h0 (r := f_X9_dayMinute E M v0) rfl) dX9_asks_30 h0 (as := []) rfl rfl ⟨rfl, rfl, Nat.le_of_ble_eq_true rfl, Nat.le_of_ble_eq_true rfl⟩ rfl (Nat.le_of_ble_eq_true rfl) ?_
        refine G_istore h dX9_asks_33  (by decide) (L' := [some (.ref v0), some (.int v1), some (.int v2), some (.int v3), some (.int (f_X9_dayMinute E M v0))]) rfl rfl ?_
        refine G_iload_n h dX9_asks_35 (i := 3) rfl rfl rfl ?_
        refine G_if_ne h dX9_asks_36 (tgt := 50) (by decide) rfl (fun c9 => ?_) (fun c9 => ?_)
        · have hf := it_f c9 hf
          refine G_iload_n h dX9_asks_50 (i := 3) rfl rfl rfl ?_
          refine G_iconst h dX9_asks_51 ki_1 rfl ?_
          refine G_icmp_ne h dX9_asks_52 (tgt := 66) (by decide) rfl (fun c10 => ?_) (fun c10 => ?_)
          · have hf := it_f c10 hf
            refine G_aload_n h dX9_asks_66 (i := 0) rfl rfl rfl ?_
            refine gf_X9_22 h hE dX9_asks_67 h0 rfl ?_
            refine G_iload_n h dX9_asks_70 (i := 1) rfl rfl rfl ?_
            obtain ⟨g11, hf⟩ := gd_some hf
            refine G_iald h dX9_asks_71 ((w_8_10 hE h0).2) g11 (jx := (ix v1)) rfl rfl ?_
            refine G_iload_n h dX9_asks_72 (i := 2) rfl rfl rfl ?_
            refine cl_X9_189 h (ok_X9_has hE _  (r := f_X9_has E M (mi M (rr E v0 10) (ix v1)) v2) rfl) dX9_asks_73 (as := [.int (mi M (rr E v0 10) (ix v1)), .int v2]) rfl rfl ⟨rfl, rfl, Nat.le_of_ble_eq_true rfl, Nat.le_of_ble_eq_true rfl⟩ rfl (Nat.le_of_ble_eq_true rfl) (fun z12 => ?_)
            refine G_if_ne h dX9_asks_76 (tgt := 90) (by decide) rfl (fun c13 => ?_) (fun c13 => ?_)
            · have hf := it_f c13 hf
              refine G_iconst h dX9_asks_90 ki_1 rfl ?_
              refine G_goto h dX9_asks_91 (tgt := 95) (by decide) ?_
              exact pwI hR dX9_asks_95 hf
            · have hf := it_t c13 hf
              refine G_aload_n h dX9_asks_79 (i := 0) rfl rfl rfl ?_
              refine G_iload_n h dX9_asks_80 (i := 1) rfl rfl rfl ?_
              refine G_iload_n h dX9_asks_81 (i := 2) rfl rfl rfl ?_
              refine G_iload h dX9_asks_82 rfl rfl ?_
              obtain ⟨x15, hx15, hf⟩ := bd hf
              refine cl_X9_213 h (ok_X9_mayMeet hE _ h0 hx15) dX9_asks_84 h0 (as := [.int v1, .int v2, .int (f_X9_dayMinute E M v0)]) rfl rfl ⟨rfl, rfl, Nat.le_of_ble_eq_true rfl, Nat.le_of_ble_eq_true rfl⟩ rfl (Nat.le_of_ble_eq_true rfl) (fun z14 => ?_)
              refine G_if_eq h dX9_asks_87 (tgt := 94) (by decide) rfl (fun c16 => ?_) (fun c16 => ?_)
              · have hf := it_t c16 hf
                refine G_iconst h dX9_asks_94 ki_0 rfl ?_
                exact pwI hR dX9_asks_95 hf
              · have hf := it_f c16 hf
                refine G_iconst h dX9_asks_90 ki_1 rfl ?_
                refine G_goto h dX9_asks_91 (tgt := 95) (by decide) ?_
                exact pwI hR dX9_asks_95 hf
          · have hf := it_t c10 hf
            refine G_aload_n h dX9_asks_55 (i := 0) rfl rfl rfl ?_
            refine G_iload_n h dX9_asks_56 (i := 1) rfl rfl rfl ?_
            refine G_iload_n h dX9_asks_57 (i := 2) rfl rfl rfl ?_
            refine G_iload h dX9_asks_58 rfl rfl ?_
            obtain ⟨x17, hx17, hf⟩ := bd hf
            refine cl_X9_195 h (ok_X9_wordFor hE _ h0 hx17) dX9_asks_60 h0 (as := [.int v1, .int v2, .int (f_X9_dayMinute E M v0)]) rfl rfl ⟨rfl, rfl, Nat.le_of_ble_eq_true rfl, Nat.le_of_ble_eq_true rfl⟩ rfl (Nat.le_of_ble_eq_true rfl) ?_
            refine G_goto h dX9_asks_63 (tgt := 95) (by decide) ?_
            exact pwI hR dX9_asks_95 hf
        · have hf := it_t c9 hf
          refine G_aload_n h dX9_asks_39 (i := 0) rfl rfl rfl ?_
          refine G_iload_n h dX9_asks_40 (i := 1) rfl rfl rfl ?_
          refine G_iload_n h dX9_asks_41 (i := 2) rfl rfl rfl ?_
          refine G_iload h dX9_asks_42 rfl rfl ?_
          obtain ⟨x18, hx18, hf⟩ := bd hf
          refine cl_X9_198 h (ok_X9_wants hE _ h0 hx18) dX9_asks_44 h0 (as := [.int v1, .int v2, .int (f_X9_dayMinute E M v0)]) rfl rfl ⟨rfl, rfl, Nat.le_of_ble_eq_true rfl, Nat.le_of_ble_eq_true rfl⟩ rfl (Nat.le_of_ble_eq_true rfl) ?_
          refine G_goto h dX9_asks_47 (tgt := 95) (by decide) ?_
          exact pwI hR dX9_asks_95 hf
      · have hf := it_t c8 hf
        refine G_aload_n h dX9_asks_24 (i := 0) rfl rfl rfl ?_
        obtain ⟨x19, hx19⟩ : ∃ x, x = f_X9_bad E M v0 := ⟨_, rfl⟩
        have hf := nm_eq hx19 hf
        refine cl_X9_95 h (ok_X9_bad hE _ h0 hx19.symm) dX9_asks_25 h0 (as := []) rfl rfl ⟨rfl, rfl, Nat.le_of_ble_eq_true rfl, Nat.le_of_ble_eq_true rfl⟩ rfl (Nat.le_of_ble_eq_true rfl) ?_
        exact pwI hR dX9_asks_28 hf
def rm_X9_begin : Room := { frames := 0, cells := 0, slots := 0, locals := 0 }
def b_X9_begin_L37 (E : Env1) (k37 : Mem → Nat → Int32 → (Option (Mem))) (M : Mem) (v0 : Nat) (v1 : Int32) : Option (Mem) :=
  if (8 : Int32) ≤ v1 then (some M)
  else (gd v1 8 (k37 (wi M (rr E v0 11) (ix v1) (0 : Int32)) v0 (v1 + 1)))
set_option maxRecDepth 100000 in
set_option maxHeartbeats 4000000 in
theorem ob_X9_begin_L37 {X : Ctx} {l0 : Launch} {E : Env1} (h : Cx X l0 E RX9 cX9_begin none 2 rm_X9_begin) (hE : WF E) {M' : Mem} (hR : RetV X E cX9_begin M') {k37 : Mem → Nat → Int32 → (Option (Mem))} (hk37 : ∀ (M : Mem) (v0 : Nat) (v1 : Int32), isK E v0 8 → k37 M v0 v1 = some (M') → G X E (0, 0) 37 [some (.ref v0), some (.int v1)] [] M) {M : Mem} {v0 : Nat} {v1 : Int32} (h_v0 : isK E v0 8) (hf : b_X9_begin_L37 E k37 M v0 v1 = some (M')) : G X E (0, 0) 37 [some (.ref v0), some (.int v1)] [] M := by
  unfold b_X9_begin_L37 at hf
  refine G_iload_n h dX9_begin_37 (i := 1) rfl rfl rfl ?_
  refine G_bipush h dX9_begin_38 kb_8 rfl ?_
  refine G_icmp_ge h dX9_begin_40 (tgt := 56) (by decide) rfl (fun c1 => ?_) (fun c1 => ?_)
  · have hf := it_t c1 hf
    exact pwV hR dX9_begin_56 hf
  · have hf := it_f c1 hf
    refine G_aload_n h dX9_begin_43 (i := 0) rfl rfl rfl ?_
    refine gf_X9_25 h hE dX9_begin_44 h_v0 rfl ?_
    refine G_iload_n h dX9_begin_47 (i := 1) rfl rfl rfl ?_
    refine G_iconst h dX9_begin_48 ki_0 rfl ?_
    obtain ⟨g2, hf⟩ := gd_some hf
    refine G_iast h dX9_begin_49 ((w_8_11 hE h_v0).2) g2 (jx := (ix v1)) rfl rfl ?_
    refine G_iinc2 h dX9_begin_50 rfl ki_1 (by decide) (L' := [some (.ref v0), some (.int (v1 + 1))]) rfl rfl ?_
    refine G_goto h dX9_begin_53 (tgt := 37) (by decide) ?_
    exact hk37 _ _ _ h_v0 hf
def f_X9_begin_L37 (E : Env1) : Nat → Mem → Nat → Int32 → (Option (Mem))
  | 0 => fun _ _ _ => none
  | n + 1 => b_X9_begin_L37 E (f_X9_begin_L37 E n)
theorem o_X9_begin_L37 {X : Ctx} {l0 : Launch} {E : Env1} (h : Cx X l0 E RX9 cX9_begin none 2 rm_X9_begin) (hE : WF E) {M' : Mem} (hR : RetV X E cX9_begin M') : ∀ (n : Nat) (M : Mem) (v0 : Nat) (v1 : Int32), isK E v0 8 → f_X9_begin_L37 E n M v0 v1 = some (M') → G X E (0, 0) 37 [some (.ref v0), some (.int v1)] [] M := by
  intro n
  induction n with
  | zero =>
    intro _ _ _ a0 hf
    have h0 : (none : Option (Mem)) = some (M') := hf
    cases h0
  | succ n ih =>
    intro _ _ _ a0 hf
    exact ob_X9_begin_L37 h hE hR  ih a0 hf
def f_X9_begin (E : Env1) (M : Mem) (v0 : Nat) : Option (Mem) :=
  nm (wi (wi (wi (wi (wi M v0 1 (0 : Int32)) v0 2 (0 : Int32)) v0 3 (0 : Int32)) v0 4 (0 : Int32)) v0 5 (0 : Int32)) fun M1 =>
  f_X9_begin_L37 E FU (wi (wi M1 v0 6 (0 : Int32)) v0 21 (0 : Int32)) v0 (0 : Int32)
set_option maxRecDepth 100000 in
set_option maxHeartbeats 4000000 in
theorem ok_X9_begin {E : Env1} (hE : WF E) (l0 : Launch) {M : Mem} {M' : Mem} {v0 : Nat} (h0 : isK E v0 8) (hf : f_X9_begin E M v0 = some (M')) : Met l0 yX9_begin (wsA yX9_begin cX9_begin 2 none) rm_X9_begin (CP E M [.ref v0]) (CQv E M') 0 0 (eA E) := by
  unfold f_X9_begin at hf
  refine mtV l0 (by decide +kernel) (Nat.le_of_ble_eq_true rfl) (L0 := [some (.ref v0), none]) rfl (fun X h hR => ?_)
  refine G_aload_n h dX9_begin_0 (i := 0) rfl rfl rfl ?_
  refine G_iconst h dX9_begin_1 ki_0 rfl ?_
  refine pf_X9_69 h dX9_begin_2 h0 rfl ?_
  refine G_aload_n h dX9_begin_5 (i := 0) rfl rfl rfl ?_
  refine G_iconst h dX9_begin_6 ki_0 rfl ?_
  refine pf_X9_73 h dX9_begin_7 h0 rfl ?_
  refine G_aload_n h dX9_begin_10 (i := 0) rfl rfl rfl ?_
  refine G_iconst h dX9_begin_11 ki_0 rfl ?_
  refine pf_X9_76 h dX9_begin_12 h0 rfl ?_
  refine G_aload_n h dX9_begin_15 (i := 0) rfl rfl rfl ?_
  refine G_iconst h dX9_begin_16 ki_0 rfl ?_
  refine pf_X9_79 h dX9_begin_17 h0 rfl ?_
  refine G_aload_n h dX9_begin_20 (i := 0) rfl rfl rfl ?_
  refine G_iconst h dX9_begin_21 ki_0 rfl ?_
  refine pf_X9_82 h dX9_begin_22 h0 rfl ?_
  refine G_nmM (fun M1 hM1 => ?_)
  have hf := nm_eq hM1 hf
  refine G_aload_n h dX9_begin_25 (i := 0) rfl rfl rfl ?_
  refine G_iconst h dX9_begin_26 ki_0 rfl ?_
  refine pf_X9_85 h dX9_begin_27 h0 rfl ?_
  refine G_aload_n h dX9_begin_30 (i := 0) rfl rfl rfl ?_
  refine G_iconst h dX9_begin_31 ki_0 rfl ?_
  refine pf_X9_88 h dX9_begin_32 h0 rfl ?_
  refine G_iconst h dX9_begin_35 ki_0 rfl ?_
  refine G_istore_n h dX9_begin_36 (i := 1) rfl (by decide) (L' := [some (.ref v0), some (.int (0 : Int32))]) rfl rfl ?_
  exact o_X9_begin_L37 h hE hR  FU _ _ _ h0 hf
def rm_X9_bits : Room := { frames := 0, cells := 0, slots := 0, locals := 0 }
def b_X9_bits_L4 (E : Env1) (M : Mem) (k4 : Int32 → Int32 → Int32 → (Option (Int32))) (v0 : Int32) (v1 : Int32) (v2 : Int32) : Option (Int32) :=
  if (8 : Int32) ≤ v2 then (some v1)
  else (
    nm (v1 + ((v0 >>> (v2 &&& 31)) &&& (1 : Int32))) fun x2 =>
    k4 v0 x2 (v2 + 1))
set_option maxRecDepth 100000 in
set_option maxHeartbeats 4000000 in
theorem ob_X9_bits_L4 {X : Ctx} {l0 : Launch} {E : Env1} (h : Cx X l0 E RX9 cX9_bits (some .int) 3 rm_X9_bits) (hE : WF E) {M : Mem} {r : Int32} (hR : RetI X E cX9_bits r M) {k4 : Int32 → Int32 → Int32 → (Option (Int32))} (hk4 : ∀ (v0 : Int32) (v1 : Int32) (v2 : Int32), k4 v0 v1 v2 = some r → G X E (0, 0) 4 [some (.int v0), some (.int v1), some (.int v2)] [] M) {v0 : Int32} {v1 : Int32} {v2 : Int32}  (hf : b_X9_bits_L4 E M k4 v0 v1 v2 = some r) : G X E (0, 0) 4 [some (.int v0), some (.int v1), some (.int v2)] [] M := by
  unfold b_X9_bits_L4 at hf
  refine G_iload_n h dX9_bits_4 (i := 2) rfl rfl rfl ?_
  refine G_bipush h dX9_bits_5 kb_8 rfl ?_
  refine G_icmp_ge h dX9_bits_7 (tgt := 24) (by decide) rfl (fun c1 => ?_) (fun c1 => ?_)
  · have hf := it_t c1 hf
    refine G_iload_n h dX9_bits_24 (i := 1) rfl rfl rfl ?_
    exact roI hR dX9_bits_25 hf
  · have hf := it_f c1 hf
    refine G_iload_n h dX9_bits_10 (i := 1) rfl rfl rfl ?_
    refine G_iload_n h dX9_bits_11 (i := 0) rfl rfl rfl ?_
    refine G_iload_n h dX9_bits_12 (i := 2) rfl rfl rfl ?_
    refine G_ishr h dX9_bits_13 rfl ?_
    refine G_iconst h dX9_bits_14 ki_1 rfl ?_
    refine G_iand h dX9_bits_15 rfl ?_
    refine G_iadd h dX9_bits_16 rfl ?_
    refine G_nmi (fun x2 hx2 => ?_)
    have hf := nm_eq hx2 hf
    refine G_istore_n h dX9_bits_17 (i := 1) rfl (by decide) (L' := [some (.int v0), some (.int x2), some (.int v2)]) rfl rfl ?_
    refine G_iinc2 h dX9_bits_18 rfl ki_1 (by decide) (L' := [some (.int v0), some (.int x2), some (.int (v2 + 1))]) rfl rfl ?_
    refine G_goto h dX9_bits_21 (tgt := 4) (by decide) ?_
    exact hk4 _ _ _ hf
def f_X9_bits_L4 (E : Env1) (M : Mem) : Nat → Int32 → Int32 → Int32 → (Option (Int32))
  | 0 => fun _ _ _ => none
  | n + 1 => b_X9_bits_L4 E M (f_X9_bits_L4 E M n)
theorem o_X9_bits_L4 {X : Ctx} {l0 : Launch} {E : Env1} (h : Cx X l0 E RX9 cX9_bits (some .int) 3 rm_X9_bits) (hE : WF E) {M : Mem} {r : Int32} (hR : RetI X E cX9_bits r M) : ∀ (n : Nat) (v0 : Int32) (v1 : Int32) (v2 : Int32), f_X9_bits_L4 E M n v0 v1 v2 = some r → G X E (0, 0) 4 [some (.int v0), some (.int v1), some (.int v2)] [] M := by
  intro n
  induction n with
  | zero =>
    intro _ _ _  hf
    have h0 : (none : Option (Int32)) = some r := hf
    cases h0
  | succ n ih =>
    intro _ _ _  hf
    exact ob_X9_bits_L4 h hE hR  ih  hf
def f_X9_bits (E : Env1) (M : Mem) (v0 : Int32) : Option (Int32) :=
  f_X9_bits_L4 E M FU v0 (0 : Int32) (0 : Int32)
set_option maxRecDepth 100000 in
set_option maxHeartbeats 4000000 in
theorem ok_X9_bits {E : Env1} (hE : WF E) (l0 : Launch) {M : Mem} {v0 : Int32} {r : Int32}  (hf : f_X9_bits E M v0 = some r) : Met l0 yX9_bits (wsA yX9_bits cX9_bits 3 (some .int)) rm_X9_bits (CP E M [.int v0]) (CQi E r M) 0 0 (eA E) := by
  unfold f_X9_bits at hf
  refine mtI l0 (by decide +kernel) (Nat.le_of_ble_eq_true rfl) (L0 := [some (.int v0), none, none]) rfl (fun X h hR => ?_)
  refine G_iconst h dX9_bits_0 ki_0 rfl ?_
  refine G_istore_n h dX9_bits_1 (i := 1) rfl (by decide) (L' := [some (.int v0), some (.int (0 : Int32)), none]) rfl rfl ?_
  refine G_iconst h dX9_bits_2 ki_0 rfl ?_
  refine G_istore_n h dX9_bits_3 (i := 2) rfl (by decide) (L' := [some (.int v0), some (.int (0 : Int32)), some (.int (0 : Int32))]) rfl rfl ?_
  exact o_X9_bits_L4 h hE hR  FU _ _ _ hf
def rm_X9_no : Room := { frames := 0, cells := 0, slots := 0, locals := 0 }
def f_X9_no (E : Env1) (M : Mem) (v0 : Nat) : Int32 × Mem :=
  ((-3 : Int32), wi M (rr E v0 0) 1 ((mi M (rr E v0 0) 1) + (1 : Int32)))
set_option maxRecDepth 100000 in
set_option maxHeartbeats 4000000 in
theorem ok_X9_no {E : Env1} (hE : WF E) (l0 : Launch) {M : Mem} {M' : Mem} {v0 : Nat} {r : Int32} (h0 : isK E v0 8) (hf : f_X9_no E M v0 = (r, M')) : Met l0 yX9_no (wsA yX9_no cX9_no 1 (some .int)) rm_X9_no (CP E M [.ref v0]) (CQi E r M') 0 0 (eA E) := by
  unfold f_X9_no at hf
  refine mtI l0 (by decide +kernel) (Nat.le_of_ble_eq_true rfl) (L0 := [some (.ref v0)]) rfl (fun X h hR => ?_)
  refine G_aload_n h dX9_no_0 (i := 0) rfl rfl rfl ?_
  refine gf_X9_1 h hE dX9_no_1 h0 rfl ?_
  refine G_iconst h dX9_no_4 ki_1 rfl ?_
  refine G_dup2 h dX9_no_5 rfl rfl rfl ?_
  refine G_iald h dX9_no_6 ((w_8_0 hE h0).2) (vi_lit (by decide)) (jx := 1) (by decide) rfl ?_
  refine G_iconst h dX9_no_7 ki_1 rfl ?_
  refine G_iadd h dX9_no_8 rfl ?_
  refine G_iast h dX9_no_9 ((w_8_0 hE h0).2) (vi_lit (by decide)) (jx := 1) (by decide) rfl ?_
  refine G_bipush h dX9_no_10 kb_m3 rfl ?_
  exact twI hR dX9_no_12 hf
def rm_X9_lays : Room := { frames := 0, cells := 0, slots := 0, locals := 0 }
def b_X9_lays_L59 (E : Env1) (n1 : Nat) (k59 : Mem → Nat → Nat → Int32 → Int32 → (Option (Mem))) (M : Mem) (v0 : Nat) (v1 : Nat) (v2 : Int32) (v3 : Int32) : Option (Mem) :=
  if (8 : Int32) ≤ v3 then (some M)
  else (gd v3 8 (gd ((v2 + (14 : Int32)) + v3) n1 (k59 (wi M v1 (ix ((v2 + (14 : Int32)) + v3)) (mi M (rr E v0 11) (ix v3))) v0 v1 v2 (v3 + 1))))
set_option maxRecDepth 100000 in
set_option maxHeartbeats 4000000 in
theorem ob_X9_lays_L59 {X : Ctx} {l0 : Launch} {E : Env1} (h : Cx X l0 E RX9 cX9_lays none 4 rm_X9_lays) (hE : WF E) {M' : Mem} {n1 : Nat} (hR : RetV X E cX9_lays M') {k59 : Mem → Nat → Nat → Int32 → Int32 → (Option (Mem))} (hk59 : ∀ (M : Mem) (v0 : Nat) (v1 : Nat) (v2 : Int32) (v3 : Int32), isK E v0 8 → isA E v1 9 n1 → k59 M v0 v1 v2 v3 = some (M') → G X E (0, 0) 59 [some (.ref v0), some (.ref v1), some (.int v2), some (.int v3)] [] M) {M : Mem} {v0 : Nat} {v1 : Nat} {v2 : Int32} {v3 : Int32} (h_v0 : isK E v0 8) (h_v1 : isA E v1 9 n1) (hf : b_X9_lays_L59 E n1 k59 M v0 v1 v2 v3 = some (M')) : G X E (0, 0) 59 [some (.ref v0), some (.ref v1), some (.int v2), some (.int v3)] [] M := by
  unfold b_X9_lays_L59 at hf
  refine G_iload_n h dX9_lays_59 (i := 3) rfl rfl rfl ?_
  refine G_bipush h dX9_lays_60 kb_8 rfl ?_
  refine G_icmp_ge h dX9_lays_62 (tgt := 85) (by decide) rfl (fun c1 => ?_) (fun c1 => ?_)
  · have hf := it_t c1 hf
    exact pwV hR dX9_lays_85 hf
  · have hf := it_f c1 hf
    refine G_aload_n h dX9_lays_65 (i := 1) rfl rfl rfl ?_
    refine G_iload_n h dX9_lays_66 (i := 2) rfl rfl rfl ?_
    refine G_bipush h dX9_lays_67 kb_14 rfl ?_
    refine G_iadd h dX9_lays_69 rfl ?_
    refine G_iload_n h dX9_lays_70 (i := 3) rfl rfl rfl ?_
    refine G_iadd h dX9_lays_71 rfl ?_
    refine G_aload_n h dX9_lays_72 (i := 0) rfl rfl rfl ?_
    refine gf_X9_25 h hE dX9_lays_73 h_v0 rfl ?_
    refine G_iload_n h dX9_lays_76 (i := 3) rfl rfl rfl ?_
    obtain ⟨g2, hf⟩ := gd_some hf
    refine G_iald h dX9_lays_77 ((w_8_11 hE h_v0).2) g2 (jx := (ix v3)) rfl rfl ?_
    obtain ⟨g3, hf⟩ := gd_some hf
    refine G_iast h dX9_lays_78 h_v1 g3 (jx := (ix ((v2 + (14 : Int32)) + v3))) rfl rfl ?_
    refine G_iinc2 h dX9_lays_79 rfl ki_1 (by decide) (L' := [some (.ref v0), some (.ref v1), some (.int v2), some (.int (v3 + 1))]) rfl rfl ?_
    refine G_goto h dX9_lays_82 (tgt := 59) (by decide) ?_
    exact hk59 _ _ _ _ _ h_v0 h_v1 hf
def f_X9_lays_L59 (E : Env1) (n1 : Nat) : Nat → Mem → Nat → Nat → Int32 → Int32 → (Option (Mem))
  | 0 => fun _ _ _ _ _ => none
  | n + 1 => b_X9_lays_L59 E n1 (f_X9_lays_L59 E n1 n)
theorem o_X9_lays_L59 {X : Ctx} {l0 : Launch} {E : Env1} (h : Cx X l0 E RX9 cX9_lays none 4 rm_X9_lays) (hE : WF E) {M' : Mem} {n1 : Nat} (hR : RetV X E cX9_lays M') : ∀ (n : Nat) (M : Mem) (v0 : Nat) (v1 : Nat) (v2 : Int32) (v3 : Int32), isK E v0 8 → isA E v1 9 n1 → f_X9_lays_L59 E n1 n M v0 v1 v2 v3 = some (M') → G X E (0, 0) 59 [some (.ref v0), some (.ref v1), some (.int v2), some (.int v3)] [] M := by
  intro n
  induction n with
  | zero =>
    intro _ _ _ _ _ a0 a1 hf
    have h0 : (none : Option (Mem)) = some (M') := hf
    cases h0
  | succ n ih =>
    intro _ _ _ _ _ a0 a1 hf
    exact ob_X9_lays_L59 h hE hR  ih a0 a1 hf
def b_X9_lays_L18 (E : Env1) (n1 : Nat) (k18 : Mem → Nat → Nat → Int32 → Int32 → (Option (Mem))) (M : Mem) (v0 : Nat) (v1 : Nat) (v2 : Int32) (v3 : Int32) : Option (Mem) :=
  if (6 : Int32) ≤ v3 then (f_X9_lays_L59 E n1 FU M v0 v1 v2 (0 : Int32))
  else (
    gd v3 6 (gd ((v2 + (2 : Int32)) + v3) n1 (gd ((v2 + (8 : Int32)) + v3) n1 (nm (wi (wi M v1 (ix ((v2 + (2 : Int32)) + v3)) (mi M (rr E v0 10) (ix v3))) v1 (ix ((v2 + (8 : Int32)) + v3)) (mi (wi M v1 (ix ((v2 + (2 : Int32)) + v3)) (mi M (rr E v0 10) (ix v3))) (rr E v0 9) (ix v3))) fun M5 =>
    k18 M5 v0 v1 v2 (v3 + 1)))))
set_option maxRecDepth 100000 in
set_option maxHeartbeats 4000000 in
theorem ob_X9_lays_L18 {X : Ctx} {l0 : Launch} {E : Env1} (h : Cx X l0 E RX9 cX9_lays none 4 rm_X9_lays) (hE : WF E) {M' : Mem} {n1 : Nat} (hR : RetV X E cX9_lays M') {k18 : Mem → Nat → Nat → Int32 → Int32 → (Option (Mem))} (hk18 : ∀ (M : Mem) (v0 : Nat) (v1 : Nat) (v2 : Int32) (v3 : Int32), isK E v0 8 → isA E v1 9 n1 → k18 M v0 v1 v2 v3 = some (M') → G X E (0, 0) 18 [some (.ref v0), some (.ref v1), some (.int v2), some (.int v3)] [] M) {M : Mem} {v0 : Nat} {v1 : Nat} {v2 : Int32} {v3 : Int32} (h_v0 : isK E v0 8) (h_v1 : isA E v1 9 n1) (hf : b_X9_lays_L18 E n1 k18 M v0 v1 v2 v3 = some (M')) : G X E (0, 0) 18 [some (.ref v0), some (.ref v1), some (.int v2), some (.int v3)] [] M := by
  unfold b_X9_lays_L18 at hf
  refine G_iload_n h dX9_lays_18 (i := 3) rfl rfl rfl ?_
  refine G_bipush h dX9_lays_19 kb_6 rfl ?_
  refine G_icmp_ge h dX9_lays_21 (tgt := 57) (by decide) rfl (fun c1 => ?_) (fun c1 => ?_)
  · have hf := it_t c1 hf
    refine G_iconst h dX9_lays_57 ki_0 rfl ?_
    refine G_istore_n h dX9_lays_58 (i := 3) rfl (by decide) (L' := [some (.ref v0), some (.ref v1), some (.int v2), some (.int (0 : Int32))]) rfl rfl ?_
    exact o_X9_lays_L59 h hE hR  FU _ _ _ _ _ h_v0 h_v1 hf
  · have hf := it_f c1 hf
    refine G_aload_n h dX9_lays_24 (i := 1) rfl rfl rfl ?_
    refine G_iload_n h dX9_lays_25 (i := 2) rfl rfl rfl ?_
    refine G_iconst h dX9_lays_26 ki_2 rfl ?_
    refine G_iadd h dX9_lays_27 rfl ?_
    refine G_iload_n h dX9_lays_28 (i := 3) rfl rfl rfl ?_
    refine G_iadd h dX9_lays_29 rfl ?_
    refine G_aload_n h dX9_lays_30 (i := 0) rfl rfl rfl ?_
    refine gf_X9_22 h hE dX9_lays_31 h_v0 rfl ?_
    refine G_iload_n h dX9_lays_34 (i := 3) rfl rfl rfl ?_
    obtain ⟨g2, hf⟩ := gd_some hf
    refine G_iald h dX9_lays_35 ((w_8_10 hE h_v0).2) g2 (jx := (ix v3)) rfl rfl ?_
    obtain ⟨g3, hf⟩ := gd_some hf
    refine G_iast h dX9_lays_36 h_v1 g3 (jx := (ix ((v2 + (2 : Int32)) + v3))) rfl rfl ?_
    refine G_aload_n h dX9_lays_37 (i := 1) rfl rfl rfl ?_
    refine G_iload_n h dX9_lays_38 (i := 2) rfl rfl rfl ?_
    refine G_bipush h dX9_lays_39 kb_8 rfl ?_
    refine G_iadd h dX9_lays_41 rfl ?_
    refine G_iload_n h dX9_lays_42 (i := 3) rfl rfl rfl ?_
    refine G_iadd h dX9_lays_43 rfl ?_
    refine G_aload_n h dX9_lays_44 (i := 0) rfl rfl rfl ?_
    refine gf_X9_19 h hE dX9_lays_45 h_v0 rfl ?_
    refine G_iload_n h dX9_lays_48 (i := 3) rfl rfl rfl ?_
    refine G_iald h dX9_lays_49 ((w_8_9 hE h_v0).2) g2 (jx := (ix v3)) rfl rfl ?_
    obtain ⟨g4, hf⟩ := gd_some hf
    refine G_iast h dX9_lays_50 h_v1 g4 (jx := (ix ((v2 + (8 : Int32)) + v3))) rfl rfl ?_
    refine G_nmM (fun M5 hM5 => ?_)
    have hf := nm_eq hM5 hf
    refine G_iinc2 h dX9_lays_51 rfl ki_1 (by decide) (L' := [some (.ref v0), some (.ref v1), some (.int v2), some (.int (v3 + 1))]) rfl rfl ?_
    refine G_goto h dX9_lays_54 (tgt := 18) (by decide) ?_
    exact hk18 _ _ _ _ _ h_v0 h_v1 hf
def f_X9_lays_L18 (E : Env1) (n1 : Nat) : Nat → Mem → Nat → Nat → Int32 → Int32 → (Option (Mem))
  | 0 => fun _ _ _ _ _ => none
  | n + 1 => b_X9_lays_L18 E n1 (f_X9_lays_L18 E n1 n)
theorem o_X9_lays_L18 {X : Ctx} {l0 : Launch} {E : Env1} (h : Cx X l0 E RX9 cX9_lays none 4 rm_X9_lays) (hE : WF E) {M' : Mem} {n1 : Nat} (hR : RetV X E cX9_lays M') : ∀ (n : Nat) (M : Mem) (v0 : Nat) (v1 : Nat) (v2 : Int32) (v3 : Int32), isK E v0 8 → isA E v1 9 n1 → f_X9_lays_L18 E n1 n M v0 v1 v2 v3 = some (M') → G X E (0, 0) 18 [some (.ref v0), some (.ref v1), some (.int v2), some (.int v3)] [] M := by
  intro n
  induction n with
  | zero =>
    intro _ _ _ _ _ a0 a1 hf
    have h0 : (none : Option (Mem)) = some (M') := hf
    cases h0
  | succ n ih =>
    intro _ _ _ _ _ a0 a1 hf
    exact ob_X9_lays_L18 h hE hR  ih a0 a1 hf
def f_X9_lays (E : Env1) (n1 : Nat) (M : Mem) (v0 : Nat) (v1 : Nat) (v2 : Int32) : Option (Mem) :=
  gd v2 n1 (gd (v2 + (1 : Int32)) n1 (nm (wi (wi M v1 (ix v2) (mi M v0 2)) v1 (ix (v2 + (1 : Int32))) (mi (wi M v1 (ix v2) (mi M v0 2)) v0 3)) fun M3 =>
  f_X9_lays_L18 E n1 FU M3 v0 v1 v2 (0 : Int32)))
set_option maxRecDepth 100000 in
set_option maxHeartbeats 4000000 in
theorem ok_X9_lays {E : Env1} (hE : WF E) (l0 : Launch) {M : Mem} {M' : Mem} {n1 : Nat} {v0 : Nat} {v1 : Nat} {v2 : Int32} (h0 : isK E v0 8) (h1 : isA E v1 9 n1) (hf : f_X9_lays E n1 M v0 v1 v2 = some (M')) : Met l0 yX9_lays (wsA yX9_lays cX9_lays 4 none) rm_X9_lays (CP E M [.ref v0, .ref v1, .int v2]) (CQv E M') 0 0 (eA E) := by
  unfold f_X9_lays at hf
  refine mtV l0 (by decide +kernel) (Nat.le_of_ble_eq_true rfl) (L0 := [some (.ref v0), some (.ref v1), some (.int v2), none]) rfl (fun X h hR => ?_)
  refine G_aload_n h dX9_lays_0 (i := 1) rfl rfl rfl ?_
  refine G_iload_n h dX9_lays_1 (i := 2) rfl rfl rfl ?_
  refine G_aload_n h dX9_lays_2 (i := 0) rfl rfl rfl ?_
  refine gf_X9_73 h dX9_lays_3 h0 rfl ?_
  obtain ⟨g1, hf⟩ := gd_some hf
  refine G_iast h dX9_lays_6 h1 g1 (jx := (ix v2)) rfl rfl ?_
  refine G_aload_n h dX9_lays_7 (i := 1) rfl rfl rfl ?_
  refine G_iload_n h dX9_lays_8 (i := 2) rfl rfl rfl ?_
  refine G_iconst h dX9_lays_9 ki_1 rfl ?_
  refine G_iadd h dX9_lays_10 rfl ?_
  refine G_aload_n h dX9_lays_11 (i := 0) rfl rfl rfl ?_
  refine gf_X9_76 h dX9_lays_12 h0 rfl ?_
  obtain ⟨g2, hf⟩ := gd_some hf
  refine G_iast h dX9_lays_15 h1 g2 (jx := (ix (v2 + (1 : Int32)))) rfl rfl ?_
  refine G_nmM (fun M3 hM3 => ?_)
  have hf := nm_eq hM3 hf
  refine G_iconst h dX9_lays_16 ki_0 rfl ?_
  refine G_istore_n h dX9_lays_17 (i := 3) rfl (by decide) (L' := [some (.ref v0), some (.ref v1), some (.int v2), some (.int (0 : Int32))]) rfl rfl ?_
  exact o_X9_lays_L18 h hE hR  FU _ _ _ _ _ h0 h1 hf
def rm_X9_notes : Room := { frames := 1, cells := 0, slots := 0, locals := 23 }
def f_X9_notes_L49 (E : Env1) (M : Mem) (v0 : Nat) : Option (Mem) :=
  (f_X9_lays E 176 M v0 (rr E v0 20) ((22 : Int32) * (mi M v0 21))).bind fun x1 =>
  some (wi x1 v0 21 ((mi x1 v0 21) + (1 : Int32)))
set_option maxRecDepth 100000 in
set_option maxHeartbeats 4000000 in
theorem o_X9_notes_L49 {X : Ctx} {l0 : Launch} {E : Env1} (h : Cx X l0 E RX9 cX9_notes none 2 rm_X9_notes) (hE : WF E) {M' : Mem} (hR : RetV X E cX9_notes M') {M : Mem} {v0 : Nat} (h_v0 : isK E v0 8) (hf : f_X9_notes_L49 E M v0 = some (M')) : G X E (0, 0) 49 [some (.ref v0), none] [] M := by
  unfold f_X9_notes_L49 at hf
  refine G_aload_n h dX9_notes_49 (i := 0) rfl rfl rfl ?_
  refine G_aload_n h dX9_notes_50 (i := 0) rfl rfl rfl ?_
  refine gf_X9_43 h hE dX9_notes_51 h_v0 rfl ?_
  refine G_bipush h dX9_notes_54 kb_22 rfl ?_
  refine G_aload_n h dX9_notes_56 (i := 0) rfl rfl rfl ?_
  refine gf_X9_88 h dX9_notes_57 h_v0 rfl ?_
  refine G_imul h dX9_notes_60 rfl ?_
  obtain ⟨x1, hx1, hf⟩ := bd hf
  refine cl_X9_207 h (ok_X9_lays hE _ h_v0 ((w_8_20 hE h_v0).2) hx1) dX9_notes_61 h_v0 (as := [.ref (rr E v0 20), .int ((22 : Int32) * (mi M v0 21))]) rfl rfl ⟨rfl, rfl, Nat.le_of_ble_eq_true rfl, Nat.le_of_ble_eq_true rfl⟩ rfl (Nat.le_of_ble_eq_true rfl) ?_
  refine G_aload_n h dX9_notes_64 (i := 0) rfl rfl rfl ?_
  refine G_dup h dX9_notes_65 rfl rfl ?_
  refine gf_X9_88 h dX9_notes_66 h_v0 rfl ?_
  refine G_iconst h dX9_notes_69 ki_1 rfl ?_
  refine G_iadd h dX9_notes_70 rfl ?_
  refine pf_X9_88 h dX9_notes_71 h_v0 rfl ?_
  exact pwV hR dX9_notes_74 hf
def b_X9_notes_L11 (E : Env1) (k11 : Mem → Nat → Int32 → (Option (Mem))) (M : Mem) (v0 : Nat) (v1 : Int32) : Option (Mem) :=
  if (154 : Int32) ≤ v1 then (f_X9_notes_L49 E (wi M v0 21 ((mi M v0 21) - (1 : Int32))) v0)
  else (gd (v1 + (22 : Int32)) 176 (gd v1 176 (k11 (wi M (rr E v0 20) (ix v1) (mi M (rr E v0 20) (ix (v1 + (22 : Int32))))) v0 (v1 + 1))))
set_option maxRecDepth 100000 in
set_option maxHeartbeats 4000000 in
theorem ob_X9_notes_L11 {X : Ctx} {l0 : Launch} {E : Env1} (h : Cx X l0 E RX9 cX9_notes none 2 rm_X9_notes) (hE : WF E) {M' : Mem} (hR : RetV X E cX9_notes M') {k11 : Mem → Nat → Int32 → (Option (Mem))} (hk11 : ∀ (M : Mem) (v0 : Nat) (v1 : Int32), isK E v0 8 → k11 M v0 v1 = some (M') → G X E (0, 0) 11 [some (.ref v0), some (.int v1)] [] M) {M : Mem} {v0 : Nat} {v1 : Int32} (h_v0 : isK E v0 8) (hf : b_X9_notes_L11 E k11 M v0 v1 = some (M')) : G X E (0, 0) 11 [some (.ref v0), some (.int v1)] [] M := by
  unfold b_X9_notes_L11 at hf
  refine G_iload_n h dX9_notes_11 (i := 1) rfl rfl rfl ?_
  refine G_sipush h dX9_notes_12 ks_154 rfl ?_
  refine G_icmp_ge h dX9_notes_15 (tgt := 39) (by decide) rfl (fun c1 => ?_) (fun c1 => ?_)
  · have hf := it_t c1 hf
    refine G_aload_n h dX9_notes_39 (i := 0) rfl rfl rfl ?_
    refine G_dup h dX9_notes_40 rfl rfl ?_
    refine gf_X9_88 h dX9_notes_41 h_v0 rfl ?_
    refine G_iconst h dX9_notes_44 ki_1 rfl ?_
    refine G_isub h dX9_notes_45 rfl ?_
    refine pf_X9_88 h dX9_notes_46 h_v0 rfl ?_
    refine G_mskL [true, false] (L' := [some (.ref v0), none]) rfl ?_
    exact o_X9_notes_L49 h hE hR h_v0 hf
  · have hf := it_f c1 hf
    refine G_aload_n h dX9_notes_18 (i := 0) rfl rfl rfl ?_
    refine gf_X9_43 h hE dX9_notes_19 h_v0 rfl ?_
    refine G_iload_n h dX9_notes_22 (i := 1) rfl rfl rfl ?_
    refine G_aload_n h dX9_notes_23 (i := 0) rfl rfl rfl ?_
    refine gf_X9_43 h hE dX9_notes_24 h_v0 rfl ?_
    refine G_iload_n h dX9_notes_27 (i := 1) rfl rfl rfl ?_
    refine G_bipush h dX9_notes_28 kb_22 rfl ?_
    refine G_iadd h dX9_notes_30 rfl ?_
    obtain ⟨g2, hf⟩ := gd_some hf
    refine G_iald h dX9_notes_31 ((w_8_20 hE h_v0).2) g2 (jx := (ix (v1 + (22 : Int32)))) rfl rfl ?_
    obtain ⟨g3, hf⟩ := gd_some hf
    refine G_iast h dX9_notes_32 ((w_8_20 hE h_v0).2) g3 (jx := (ix v1)) rfl rfl ?_
    refine G_iinc2 h dX9_notes_33 rfl ki_1 (by decide) (L' := [some (.ref v0), some (.int (v1 + 1))]) rfl rfl ?_
    refine G_goto h dX9_notes_36 (tgt := 11) (by decide) ?_
    exact hk11 _ _ _ h_v0 hf
def f_X9_notes_L11 (E : Env1) : Nat → Mem → Nat → Int32 → (Option (Mem))
  | 0 => fun _ _ _ => none
  | n + 1 => b_X9_notes_L11 E (f_X9_notes_L11 E n)
theorem o_X9_notes_L11 {X : Ctx} {l0 : Launch} {E : Env1} (h : Cx X l0 E RX9 cX9_notes none 2 rm_X9_notes) (hE : WF E) {M' : Mem} (hR : RetV X E cX9_notes M') : ∀ (n : Nat) (M : Mem) (v0 : Nat) (v1 : Int32), isK E v0 8 → f_X9_notes_L11 E n M v0 v1 = some (M') → G X E (0, 0) 11 [some (.ref v0), some (.int v1)] [] M := by
  intro n
  induction n with
  | zero =>
    intro _ _ _ a0 hf
    have h0 : (none : Option (Mem)) = some (M') := hf
    cases h0
  | succ n ih =>
    intro _ _ _ a0 hf
    exact ob_X9_notes_L11 h hE hR  ih a0 hf
def f_X9_notes (E : Env1) (M : Mem) (v0 : Nat) : Option (Mem) :=
  if (mi M v0 21) = (8 : Int32) then (f_X9_notes_L11 E FU M v0 (0 : Int32))
  else (f_X9_notes_L49 E M v0)
set_option maxRecDepth 100000 in
set_option maxHeartbeats 4000000 in
theorem ok_X9_notes {E : Env1} (hE : WF E) (l0 : Launch) {M : Mem} {M' : Mem} {v0 : Nat} (h0 : isK E v0 8) (hf : f_X9_notes E M v0 = some (M')) : Met l0 yX9_notes (wsA yX9_notes cX9_notes 2 none) rm_X9_notes (CP E M [.ref v0]) (CQv E M') 0 0 (eA E) := by
  unfold f_X9_notes at hf
  refine mtV l0 (by decide +kernel) (Nat.le_of_ble_eq_true rfl) (L0 := [some (.ref v0), none]) rfl (fun X h hR => ?_)
  refine G_aload_n h dX9_notes_0 (i := 0) rfl rfl rfl ?_
  refine gf_X9_88 h dX9_notes_1 h0 rfl ?_
  refine G_bipush h dX9_notes_4 kb_8 rfl ?_
  refine G_icmp_ne h dX9_notes_6 (tgt := 49) (by decide) rfl (fun c1 => ?_) (fun c1 => ?_)
  · have hf := it_f c1 hf
    exact o_X9_notes_L49 h hE hR h0 hf
  · have hf := it_t c1 hf
    refine G_iconst h dX9_notes_9 ki_0 rfl ?_
    refine G_istore_n h dX9_notes_10 (i := 1) rfl (by decide) (L' := [some (.ref v0), some (.int (0 : Int32))]) rfl rfl ?_
    exact o_X9_notes_L11 h hE hR  FU _ _ _ h0 hf
def rm_X9_carpet : Room := { frames := 2, cells := 0, slots := 0, locals := 44 }
def f_X9_carpet (E : Env1) (M : Mem) (v0 : Nat) (v1 : Int32) (v2 : Int32) : Option (Int32 × Mem) :=
  if (f_X9_in E M v1 (0 : Int32) (6 : Int32)) = 0 then (
    nm (f_X9_bad E M v0) fun x3 =>
    some (x3.1, x3.2))
  else (
    if (f_X9_in E M v2 (0 : Int32) (1 : Int32)) = 0 then (
      nm (f_X9_bad E M v0) fun x9 =>
      some (x9.1, x9.2))
    else (
      if (((mi M v0 3) >>> (v1 &&& 31)) &&& (1 : Int32)) = v2 then (
        nm (f_X9_no E M v0) fun x8 =>
        some (x8.1, x8.2))
      else (
        (f_X9_notes E M v0).bind fun x7 =>
        some ((1 : Int32) - v2, wi x7 v0 3 ((mi x7 v0 3) ^^^ ((1 : Int32) <<< (v1 &&& 31)))))))
set_option maxRecDepth 100000 in
set_option maxHeartbeats 4000000 in
theorem ok_X9_carpet {E : Env1} (hE : WF E) (l0 : Launch) {M : Mem} {M' : Mem} {v0 : Nat} {v1 : Int32} {v2 : Int32} {r : Int32} (h0 : isK E v0 8) (hf : f_X9_carpet E M v0 v1 v2 = some (r, M')) : Met l0 yX9_carpet (wsA yX9_carpet cX9_carpet 3 (some .int)) rm_X9_carpet (CP E M [.ref v0, .int v1, .int v2]) (CQi E r M') 0 0 (eA E) := by
  unfold f_X9_carpet at hf
  refine mtI l0 (by decide +kernel) (Nat.le_of_ble_eq_true rfl) (L0 := [some (.ref v0), some (.int v1), some (.int v2)]) rfl (fun X h hR => ?_)
  refine G_iload_n h dX9_carpet_0 (i := 1) rfl rfl rfl ?_
  refine G_iconst h dX9_carpet_1 ki_0 rfl ?_
  refine G_bipush h dX9_carpet_2 kb_6 rfl ?_
  refine cl_X9_91 h (ok_X9_in hE _  (r := f_X9_in E M v1 (0 : Int32) (6 : Int32)) rfl) dX9_carpet_4 (as := [.int v1, .int (0 : Int32), .int (6 : Int32)]) rfl rfl ⟨rfl, rfl, Nat.le_of_ble_eq_true rfl, Nat.le_of_ble_eq_true rfl⟩ rfl (Nat.le_of_ble_eq_true rfl) (fun z1 => ?_)
  refine G_if_eq h dX9_carpet_7 (tgt := 19) (by decide) rfl (fun c2 => ?_) (fun c2 => ?_)
  · have hf := it_t c2 hf
    refine G_aload_n h dX9_carpet_19 (i := 0) rfl rfl rfl ?_
    obtain ⟨x3, hx3⟩ : ∃ x, x = f_X9_bad E M v0 := ⟨_, rfl⟩
    have hf := nm_eq hx3 hf
    refine cl_X9_95 h (ok_X9_bad hE _ h0 hx3.symm) dX9_carpet_20 h0 (as := []) rfl rfl ⟨rfl, rfl, Nat.le_of_ble_eq_true rfl, Nat.le_of_ble_eq_true rfl⟩ rfl (Nat.le_of_ble_eq_true rfl) ?_
    exact pwI hR dX9_carpet_23 hf
  · have hf := it_f c2 hf
    refine G_iload_n h dX9_carpet_10 (i := 2) rfl rfl rfl ?_
    refine G_iconst h dX9_carpet_11 ki_0 rfl ?_
    refine G_iconst h dX9_carpet_12 ki_1 rfl ?_
    refine cl_X9_91 h (ok_X9_in hE _  (r := f_X9_in E M v2 (0 : Int32) (1 : Int32)) rfl) dX9_carpet_13 (as := [.int v2, .int (0 : Int32), .int (1 : Int32)]) rfl rfl ⟨rfl, rfl, Nat.le_of_ble_eq_true rfl, Nat.le_of_ble_eq_true rfl⟩ rfl (Nat.le_of_ble_eq_true rfl) (fun z4 => ?_)
    refine G_if_ne h dX9_carpet_16 (tgt := 24) (by decide) rfl (fun c5 => ?_) (fun c5 => ?_)
    · have hf := it_f c5 hf
      refine G_aload_n h dX9_carpet_24 (i := 0) rfl rfl rfl ?_
      refine gf_X9_76 h dX9_carpet_25 h0 rfl ?_
      refine G_iload_n h dX9_carpet_28 (i := 1) rfl rfl rfl ?_
      refine G_ishr h dX9_carpet_29 rfl ?_
      refine G_iconst h dX9_carpet_30 ki_1 rfl ?_
      refine G_iand h dX9_carpet_31 rfl ?_
      refine G_iload_n h dX9_carpet_32 (i := 2) rfl rfl rfl ?_
      refine G_icmp_ne h dX9_carpet_33 (tgt := 41) (by decide) rfl (fun c6 => ?_) (fun c6 => ?_)
      · have hf := it_f c6 hf
        refine G_aload_n h dX9_carpet_41 (i := 0) rfl rfl rfl ?_
        obtain ⟨x7, hx7, hf⟩ := bd hf
        refine cl_X9_225 h (ok_X9_notes hE _ h0 hx7) dX9_carpet_42 h0 (as := []) rfl rfl ⟨rfl, rfl, Nat.le_of_ble_eq_true rfl, Nat.le_of_ble_eq_true rfl⟩ rfl (Nat.le_of_ble_eq_true rfl) ?_
        refine G_aload_n h dX9_carpet_45 (i := 0) rfl rfl rfl ?_
        refine G_dup h dX9_carpet_46 rfl rfl ?_
        refine gf_X9_76 h dX9_carpet_47 h0 rfl ?_
        refine G_iconst h dX9_carpet_50 ki_1 rfl ?_
        refine G_iload_n h dX9_carpet_51 (i := 1) rfl rfl rfl ?_
        refine G_ishl h dX9_carpet_52 rfl ?_
        refine G_ixor h dX9_carpet_53 rfl ?_
        refine pf_X9_76 h dX9_carpet_54 h0 rfl ?_
        refine G_iconst h dX9_carpet_57 ki_1 rfl ?_
        refine G_iload_n h dX9_carpet_58 (i := 2) rfl rfl rfl ?_
        refine G_isub h dX9_carpet_59 rfl ?_
        exact pwI hR dX9_carpet_60 hf
      · have hf := it_t c6 hf
        refine G_aload_n h dX9_carpet_36 (i := 0) rfl rfl rfl ?_
        obtain ⟨x8, hx8⟩ : ∃ x, x = f_X9_no E M v0 := ⟨_, rfl⟩
        have hf := nm_eq hx8 hf
        refine cl_X9_222 h (ok_X9_no hE _ h0 hx8.symm) dX9_carpet_37 h0 (as := []) rfl rfl ⟨rfl, rfl, Nat.le_of_ble_eq_true rfl, Nat.le_of_ble_eq_true rfl⟩ rfl (Nat.le_of_ble_eq_true rfl) ?_
        exact pwI hR dX9_carpet_40 hf
    · have hf := it_t c5 hf
      refine G_aload_n h dX9_carpet_19 (i := 0) rfl rfl rfl ?_
      obtain ⟨x9, hx9⟩ : ∃ x, x = f_X9_bad E M v0 := ⟨_, rfl⟩
      have hf := nm_eq hx9 hf
      refine cl_X9_95 h (ok_X9_bad hE _ h0 hx9.symm) dX9_carpet_20 h0 (as := []) rfl rfl ⟨rfl, rfl, Nat.le_of_ble_eq_true rfl, Nat.le_of_ble_eq_true rfl⟩ rfl (Nat.le_of_ble_eq_true rfl) ?_
      exact pwI hR dX9_carpet_23 hf
def rm_X9_clear : Room := { frames := 0, cells := 0, slots := 0, locals := 0 }
def f_X9_clear (E : Env1) (M : Mem) (v0 : Nat) : Int32 × Mem :=
  (mi M v0 16, wi M v0 16 (0 : Int32))
set_option maxRecDepth 100000 in
set_option maxHeartbeats 4000000 in
theorem ok_X9_clear {E : Env1} (hE : WF E) (l0 : Launch) {M : Mem} {M' : Mem} {v0 : Nat} {r : Int32} (h0 : isK E v0 8) (hf : f_X9_clear E M v0 = (r, M')) : Met l0 yX9_clear (wsA yX9_clear cX9_clear 2 (some .int)) rm_X9_clear (CP E M [.ref v0]) (CQi E r M') 0 0 (eA E) := by
  unfold f_X9_clear at hf
  refine mtI l0 (by decide +kernel) (Nat.le_of_ble_eq_true rfl) (L0 := [some (.ref v0), none]) rfl (fun X h hR => ?_)
  refine G_aload_n h dX9_clear_0 (i := 0) rfl rfl rfl ?_
  refine gf_X9_106 h dX9_clear_1 h0 rfl ?_
  refine G_istore_n h dX9_clear_4 (i := 1) rfl (by decide) (L' := [some (.ref v0), some (.int (mi M v0 16))]) rfl rfl ?_
  refine G_aload_n h dX9_clear_5 (i := 0) rfl rfl rfl ?_
  refine G_iconst h dX9_clear_6 ki_0 rfl ?_
  refine pf_X9_106 h dX9_clear_7 h0 rfl ?_
  refine G_iload_n h dX9_clear_10 (i := 1) rfl rfl rfl ?_
  exact twI hR dX9_clear_11 hf
def rm_X9_knownAll : Room := { frames := 1, cells := 0, slots := 0, locals := 22 }
def b_X9_knownAll_L4 (E : Env1) (M : Mem) (k4 : Nat → Int32 → Int32 → (Option (Int32))) (v0 : Nat) (v1 : Int32) (v2 : Int32) : Option (Int32) :=
  if (mi M v0 1) ≤ v2 then (some v1)
  else (
    gd v2 6 ((f_X9_bits E M (mi M (rr E v0 10) (ix v2))).bind fun x3 =>
    k4 v0 (v1 + x3) (v2 + 1)))
set_option maxRecDepth 100000 in
set_option maxHeartbeats 4000000 in
theorem ob_X9_knownAll_L4 {X : Ctx} {l0 : Launch} {E : Env1} (h : Cx X l0 E RX9 cX9_knownAll (some .int) 3 rm_X9_knownAll) (hE : WF E) {M : Mem} {r : Int32} (hR : RetI X E cX9_knownAll r M) {k4 : Nat → Int32 → Int32 → (Option (Int32))} (hk4 : ∀ (v0 : Nat) (v1 : Int32) (v2 : Int32), isK E v0 8 → k4 v0 v1 v2 = some r → G X E (0, 0) 4 [some (.ref v0), some (.int v1), some (.int v2)] [] M) {v0 : Nat} {v1 : Int32} {v2 : Int32} (h_v0 : isK E v0 8) (hf : b_X9_knownAll_L4 E M k4 v0 v1 v2 = some r) : G X E (0, 0) 4 [some (.ref v0), some (.int v1), some (.int v2)] [] M := by
  unfold b_X9_knownAll_L4 at hf
  refine G_iload_n h dX9_knownAll_4 (i := 2) rfl rfl rfl ?_
  refine G_aload_n h dX9_knownAll_5 (i := 0) rfl rfl rfl ?_
  refine gf_X9_69 h dX9_knownAll_6 h_v0 rfl ?_
  refine G_icmp_ge h dX9_knownAll_9 (tgt := 30) (by decide) rfl (fun c1 => ?_) (fun c1 => ?_)
  · have hf := it_t c1 hf
    refine G_iload_n h dX9_knownAll_30 (i := 1) rfl rfl rfl ?_
    exact roI hR dX9_knownAll_31 hf
  · have hf := it_f c1 hf
    refine G_iload_n h dX9_knownAll_12 (i := 1) rfl rfl rfl ?_
    refine G_aload_n h dX9_knownAll_13 (i := 0) rfl rfl rfl ?_
    refine gf_X9_22 h hE dX9_knownAll_14 h_v0 rfl ?_
    refine G_iload_n h dX9_knownAll_17 (i := 2) rfl rfl rfl ?_
    obtain ⟨g2, hf⟩ := gd_some hf
    refine G_iald h dX9_knownAll_18 ((w_8_10 hE h_v0).2) g2 (jx := (ix v2)) rfl rfl ?_
    obtain ⟨x3, hx3, hf⟩ := bd hf
    refine cl_X9_201 h (ok_X9_bits hE _  hx3) dX9_knownAll_19 (as := [.int (mi M (rr E v0 10) (ix v2))]) rfl rfl ⟨rfl, rfl, Nat.le_of_ble_eq_true rfl, Nat.le_of_ble_eq_true rfl⟩ rfl (Nat.le_of_ble_eq_true rfl) ?_
    refine G_iadd h dX9_knownAll_22 rfl ?_
    refine G_istore_n h dX9_knownAll_23 (i := 1) rfl (by decide) (L' := [some (.ref v0), some (.int (v1 + x3)), some (.int v2)]) rfl rfl ?_
    refine G_iinc2 h dX9_knownAll_24 rfl ki_1 (by decide) (L' := [some (.ref v0), some (.int (v1 + x3)), some (.int (v2 + 1))]) rfl rfl ?_
    refine G_goto h dX9_knownAll_27 (tgt := 4) (by decide) ?_
    exact hk4 _ _ _ h_v0 hf
def f_X9_knownAll_L4 (E : Env1) (M : Mem) : Nat → Nat → Int32 → Int32 → (Option (Int32))
  | 0 => fun _ _ _ => none
  | n + 1 => b_X9_knownAll_L4 E M (f_X9_knownAll_L4 E M n)
theorem o_X9_knownAll_L4 {X : Ctx} {l0 : Launch} {E : Env1} (h : Cx X l0 E RX9 cX9_knownAll (some .int) 3 rm_X9_knownAll) (hE : WF E) {M : Mem} {r : Int32} (hR : RetI X E cX9_knownAll r M) : ∀ (n : Nat) (v0 : Nat) (v1 : Int32) (v2 : Int32), isK E v0 8 → f_X9_knownAll_L4 E M n v0 v1 v2 = some r → G X E (0, 0) 4 [some (.ref v0), some (.int v1), some (.int v2)] [] M := by
  intro n
  induction n with
  | zero =>
    intro _ _ _ a0 hf
    have h0 : (none : Option (Int32)) = some r := hf
    cases h0
  | succ n ih =>
    intro _ _ _ a0 hf
    exact ob_X9_knownAll_L4 h hE hR  ih a0 hf
def f_X9_knownAll (E : Env1) (M : Mem) (v0 : Nat) : Option (Int32) :=
  f_X9_knownAll_L4 E M FU v0 (0 : Int32) (0 : Int32)
set_option maxRecDepth 100000 in
set_option maxHeartbeats 4000000 in
theorem ok_X9_knownAll {E : Env1} (hE : WF E) (l0 : Launch) {M : Mem} {v0 : Nat} {r : Int32} (h0 : isK E v0 8) (hf : f_X9_knownAll E M v0 = some r) : Met l0 yX9_knownAll (wsA yX9_knownAll cX9_knownAll 3 (some .int)) rm_X9_knownAll (CP E M [.ref v0]) (CQi E r M) 0 0 (eA E) := by
  unfold f_X9_knownAll at hf
  refine mtI l0 (by decide +kernel) (Nat.le_of_ble_eq_true rfl) (L0 := [some (.ref v0), none, none]) rfl (fun X h hR => ?_)
  refine G_iconst h dX9_knownAll_0 ki_0 rfl ?_
  refine G_istore_n h dX9_knownAll_1 (i := 1) rfl (by decide) (L' := [some (.ref v0), some (.int (0 : Int32)), none]) rfl rfl ?_
  refine G_iconst h dX9_knownAll_2 ki_0 rfl ?_
  refine G_istore_n h dX9_knownAll_3 (i := 2) rfl (by decide) (L' := [some (.ref v0), some (.int (0 : Int32)), some (.int (0 : Int32))]) rfl rfl ?_
  exact o_X9_knownAll_L4 h hE hR  FU _ _ _ h0 hf
def rm_X9_topMany : Room := { frames := 0, cells := 0, slots := 0, locals := 0 }
def b_X9_topMany_L4 (E : Env1) (M : Mem) (k4 : Nat → Int32 → Int32 → (Option (Int32))) (v0 : Nat) (v1 : Int32) (v2 : Int32) : Option (Int32) :=
  if (mi M v0 1) ≤ v2 then (some v1)
  else (
    gd v2 6 (nm (v1 + (if (mi M (rr E v0 9) (ix v2)) = (8 : Int32) then (1 : Int32) else (0 : Int32))) fun x4 =>
    k4 v0 x4 (v2 + 1)))
set_option maxRecDepth 100000 in
set_option maxHeartbeats 4000000 in
theorem ob_X9_topMany_L4 {X : Ctx} {l0 : Launch} {E : Env1} (h : Cx X l0 E RX9 cX9_topMany (some .int) 3 rm_X9_topMany) (hE : WF E) {M : Mem} {r : Int32} (hR : RetI X E cX9_topMany r M) {k4 : Nat → Int32 → Int32 → (Option (Int32))} (hk4 : ∀ (v0 : Nat) (v1 : Int32) (v2 : Int32), isK E v0 8 → k4 v0 v1 v2 = some r → G X E (0, 0) 4 [some (.ref v0), some (.int v1), some (.int v2)] [] M) {v0 : Nat} {v1 : Int32} {v2 : Int32} (h_v0 : isK E v0 8) (hf : b_X9_topMany_L4 E M k4 v0 v1 v2 = some r) : G X E (0, 0) 4 [some (.ref v0), some (.int v1), some (.int v2)] [] M := by
  unfold b_X9_topMany_L4 at hf
  refine G_iload_n h dX9_topMany_4 (i := 2) rfl rfl rfl ?_
  refine G_aload_n h dX9_topMany_5 (i := 0) rfl rfl rfl ?_
  refine gf_X9_69 h dX9_topMany_6 h_v0 rfl ?_
  refine G_icmp_ge h dX9_topMany_9 (tgt := 37) (by decide) rfl (fun c1 => ?_) (fun c1 => ?_)
  · have hf := it_t c1 hf
    refine G_iload_n h dX9_topMany_37 (i := 1) rfl rfl rfl ?_
    exact roI hR dX9_topMany_38 hf
  · have hf := it_f c1 hf
    refine G_iload_n h dX9_topMany_12 (i := 1) rfl rfl rfl ?_
    refine G_aload_n h dX9_topMany_13 (i := 0) rfl rfl rfl ?_
    refine gf_X9_19 h hE dX9_topMany_14 h_v0 rfl ?_
    refine G_iload_n h dX9_topMany_17 (i := 2) rfl rfl rfl ?_
    obtain ⟨g2, hf⟩ := gd_some hf
    refine G_iald h dX9_topMany_18 ((w_8_9 hE h_v0).2) g2 (jx := (ix v2)) rfl rfl ?_
    refine G_bipush h dX9_topMany_19 kb_8 rfl ?_
    have hJ : G X E (0, 0) 29 [some (.ref v0), some (.int v1), some (.int v2)] [.int (if (mi M (rr E v0 9) (ix v2)) = (8 : Int32) then (1 : Int32) else (0 : Int32)), .int v1] M := by
      refine G_iadd h dX9_topMany_29 rfl ?_
      refine G_nmi (fun x4 hx4 => ?_)
      have hf := nm_eq hx4 hf
      refine G_istore_n h dX9_topMany_30 (i := 1) rfl (by decide) (L' := [some (.ref v0), some (.int x4), some (.int v2)]) rfl rfl ?_
      refine G_iinc2 h dX9_topMany_31 rfl ki_1 (by decide) (L' := [some (.ref v0), some (.int x4), some (.int (v2 + 1))]) rfl rfl ?_
      refine G_goto h dX9_topMany_34 (tgt := 4) (by decide) ?_
      exact hk4 _ _ _ h_v0 hf
    refine G_icmp_ne h dX9_topMany_21 (tgt := 28) (by decide) rfl (fun c3 => ?_) (fun c3 => ?_)
    · refine G_iconst h dX9_topMany_28 ki_0 rfl ?_
      exact G_ifn c3 hJ
    · refine G_iconst h dX9_topMany_24 ki_1 rfl ?_
      refine G_goto h dX9_topMany_25 (tgt := 29) (by decide) ?_
      exact G_ifp c3 hJ
def f_X9_topMany_L4 (E : Env1) (M : Mem) : Nat → Nat → Int32 → Int32 → (Option (Int32))
  | 0 => fun _ _ _ => none
  | n + 1 => b_X9_topMany_L4 E M (f_X9_topMany_L4 E M n)
theorem o_X9_topMany_L4 {X : Ctx} {l0 : Launch} {E : Env1} (h : Cx X l0 E RX9 cX9_topMany (some .int) 3 rm_X9_topMany) (hE : WF E) {M : Mem} {r : Int32} (hR : RetI X E cX9_topMany r M) : ∀ (n : Nat) (v0 : Nat) (v1 : Int32) (v2 : Int32), isK E v0 8 → f_X9_topMany_L4 E M n v0 v1 v2 = some r → G X E (0, 0) 4 [some (.ref v0), some (.int v1), some (.int v2)] [] M := by
  intro n
  induction n with
  | zero =>
    intro _ _ _ a0 hf
    have h0 : (none : Option (Int32)) = some r := hf
    cases h0
  | succ n ih =>
    intro _ _ _ a0 hf
    exact ob_X9_topMany_L4 h hE hR  ih a0 hf
def f_X9_topMany (E : Env1) (M : Mem) (v0 : Nat) : Option (Int32) :=
  f_X9_topMany_L4 E M FU v0 (0 : Int32) (0 : Int32)
set_option maxRecDepth 100000 in
set_option maxHeartbeats 4000000 in
theorem ok_X9_topMany {E : Env1} (hE : WF E) (l0 : Launch) {M : Mem} {v0 : Nat} {r : Int32} (h0 : isK E v0 8) (hf : f_X9_topMany E M v0 = some r) : Met l0 yX9_topMany (wsA yX9_topMany cX9_topMany 3 (some .int)) rm_X9_topMany (CP E M [.ref v0]) (CQi E r M) 0 0 (eA E) := by
  unfold f_X9_topMany at hf
  refine mtI l0 (by decide +kernel) (Nat.le_of_ble_eq_true rfl) (L0 := [some (.ref v0), none, none]) rfl (fun X h hR => ?_)
  refine G_iconst h dX9_topMany_0 ki_0 rfl ?_
  refine G_istore_n h dX9_topMany_1 (i := 1) rfl (by decide) (L' := [some (.ref v0), some (.int (0 : Int32)), none]) rfl rfl ?_
  refine G_iconst h dX9_topMany_2 ki_0 rfl ?_
  refine G_istore_n h dX9_topMany_3 (i := 2) rfl (by decide) (L' := [some (.ref v0), some (.int (0 : Int32)), some (.int (0 : Int32))]) rfl rfl ?_
  exact o_X9_topMany_L4 h hE hR  FU _ _ _ h0 hf
def rm_X9_countOf : Room := { frames := 2, cells := 0, slots := 0, locals := 44 }
def f_X9_countOf (E : Env1) (M : Mem) (v0 : Nat) (v1 : Int32) : Option (Int32) :=
  if v1 = 0 then (some (mi M v0 1))
  else if v1 = 1 then (some (mi M v0 2))
  else if v1 = 2 then (
    (f_X9_knownAll E M v0).bind fun x4 =>
    some x4)
  else if v1 = 3 then (
    (f_X9_bits E M (mi M v0 3)).bind fun x6 =>
    some x6)
  else if v1 = 4 then (
    (f_X9_topMany E M v0).bind fun x8 =>
    some x8)
  else if v1 = 5 then (some (mi M v0 4))
  else if v1 = 6 then (some (mi M v0 5))
  else if v1 = 7 then (some (mi M v0 6))
  else if v1 = 8 then (some (mi M v0 21))
  else (some (mi M v0 16))
set_option maxRecDepth 100000 in
set_option maxHeartbeats 4000000 in
theorem ok_X9_countOf {E : Env1} (hE : WF E) (l0 : Launch) {M : Mem} {v0 : Nat} {v1 : Int32} {r : Int32} (h0 : isK E v0 8) (hf : f_X9_countOf E M v0 v1 = some r) : Met l0 yX9_countOf (wsA yX9_countOf cX9_countOf 2 (some .int)) rm_X9_countOf (CP E M [.ref v0, .int v1]) (CQi E r M) 0 0 (eA E) := by
  unfold f_X9_countOf at hf
  refine mtI l0 (by decide +kernel) (Nat.le_of_ble_eq_true rfl) (L0 := [some (.ref v0), some (.int v1)]) rfl (fun X h hR => ?_)
  refine G_iload_n h dX9_countOf_0 (i := 1) rfl rfl rfl ?_
  by_cases c1 : v1 = 0
  · have hf := it_t c1 hf
    refine G_tsIn h dX9_countOf_1 c1 (v := 0) (j := 0) (by decide) (by decide) rfl (tgt := 52) (by decide) ?_
    refine G_aload_n h dX9_countOf_52 (i := 0) rfl rfl rfl ?_
    refine gf_X9_69 h dX9_countOf_53 h0 rfl ?_
    exact roI hR dX9_countOf_56 hf
  have hf := it_f c1 hf
  by_cases c2 : v1 = 1
  · have hf := it_t c2 hf
    refine G_tsIn h dX9_countOf_1 c2 (v := 1) (j := 1) (by decide) (by decide) rfl (tgt := 57) (by decide) ?_
    refine G_aload_n h dX9_countOf_57 (i := 0) rfl rfl rfl ?_
    refine gf_X9_73 h dX9_countOf_58 h0 rfl ?_
    exact roI hR dX9_countOf_61 hf
  have hf := it_f c2 hf
  by_cases c3 : v1 = 2
  · have hf := it_t c3 hf
    refine G_tsIn h dX9_countOf_1 c3 (v := 2) (j := 2) (by decide) (by decide) rfl (tgt := 62) (by decide) ?_
    refine G_aload_n h dX9_countOf_62 (i := 0) rfl rfl rfl ?_
    obtain ⟨x4, hx4, hf⟩ := bd hf
    refine cl_X9_235 h (ok_X9_knownAll hE _ h0 hx4) dX9_countOf_63 h0 (as := []) rfl rfl ⟨rfl, rfl, Nat.le_of_ble_eq_true rfl, Nat.le_of_ble_eq_true rfl⟩ rfl (Nat.le_of_ble_eq_true rfl) ?_
    exact roI hR dX9_countOf_66 hf
  have hf := it_f c3 hf
  by_cases c5 : v1 = 3
  · have hf := it_t c5 hf
    refine G_tsIn h dX9_countOf_1 c5 (v := 3) (j := 3) (by decide) (by decide) rfl (tgt := 67) (by decide) ?_
    refine G_aload_n h dX9_countOf_67 (i := 0) rfl rfl rfl ?_
    refine gf_X9_76 h dX9_countOf_68 h0 rfl ?_
    obtain ⟨x6, hx6, hf⟩ := bd hf
    refine cl_X9_201 h (ok_X9_bits hE _  hx6) dX9_countOf_71 (as := [.int (mi M v0 3)]) rfl rfl ⟨rfl, rfl, Nat.le_of_ble_eq_true rfl, Nat.le_of_ble_eq_true rfl⟩ rfl (Nat.le_of_ble_eq_true rfl) ?_
    exact roI hR dX9_countOf_74 hf
  have hf := it_f c5 hf
  by_cases c7 : v1 = 4
  · have hf := it_t c7 hf
    refine G_tsIn h dX9_countOf_1 c7 (v := 4) (j := 4) (by decide) (by decide) rfl (tgt := 75) (by decide) ?_
    refine G_aload_n h dX9_countOf_75 (i := 0) rfl rfl rfl ?_
    obtain ⟨x8, hx8, hf⟩ := bd hf
    refine cl_X9_298 h (ok_X9_topMany hE _ h0 hx8) dX9_countOf_76 h0 (as := []) rfl rfl ⟨rfl, rfl, Nat.le_of_ble_eq_true rfl, Nat.le_of_ble_eq_true rfl⟩ rfl (Nat.le_of_ble_eq_true rfl) ?_
    exact roI hR dX9_countOf_79 hf
  have hf := it_f c7 hf
  by_cases c9 : v1 = 5
  · have hf := it_t c9 hf
    refine G_tsIn h dX9_countOf_1 c9 (v := 5) (j := 5) (by decide) (by decide) rfl (tgt := 80) (by decide) ?_
    refine G_aload_n h dX9_countOf_80 (i := 0) rfl rfl rfl ?_
    refine gf_X9_79 h dX9_countOf_81 h0 rfl ?_
    exact roI hR dX9_countOf_84 hf
  have hf := it_f c9 hf
  by_cases c10 : v1 = 6
  · have hf := it_t c10 hf
    refine G_tsIn h dX9_countOf_1 c10 (v := 6) (j := 6) (by decide) (by decide) rfl (tgt := 85) (by decide) ?_
    refine G_aload_n h dX9_countOf_85 (i := 0) rfl rfl rfl ?_
    refine gf_X9_82 h dX9_countOf_86 h0 rfl ?_
    exact roI hR dX9_countOf_89 hf
  have hf := it_f c10 hf
  by_cases c11 : v1 = 7
  · have hf := it_t c11 hf
    refine G_tsIn h dX9_countOf_1 c11 (v := 7) (j := 7) (by decide) (by decide) rfl (tgt := 90) (by decide) ?_
    refine G_aload_n h dX9_countOf_90 (i := 0) rfl rfl rfl ?_
    refine gf_X9_85 h dX9_countOf_91 h0 rfl ?_
    exact roI hR dX9_countOf_94 hf
  have hf := it_f c11 hf
  by_cases c12 : v1 = 8
  · have hf := it_t c12 hf
    refine G_tsIn h dX9_countOf_1 c12 (v := 8) (j := 8) (by decide) (by decide) rfl (tgt := 95) (by decide) ?_
    refine G_aload_n h dX9_countOf_95 (i := 0) rfl rfl rfl ?_
    refine gf_X9_88 h dX9_countOf_96 h0 rfl ?_
    exact roI hR dX9_countOf_99 hf
  have hf := it_f c12 hf
  have nc1 := ne_lit c1 (n := 0) (by decide)
  have nc2 := ne_lit c2 (n := 1) (by decide)
  have nc3 := ne_lit c3 (n := 2) (by decide)
  have nc5 := ne_lit c5 (n := 3) (by decide)
  have nc7 := ne_lit c7 (n := 4) (by decide)
  have nc9 := ne_lit c9 (n := 5) (by decide)
  have nc10 := ne_lit c10 (n := 6) (by decide)
  have nc11 := ne_lit c11 (n := 7) (by decide)
  have nc12 := ne_lit c12 (n := 8) (by decide)
  refine G_tsOut h dX9_countOf_1 (by omega) (tgt := 100) (by decide) ?_
  refine G_aload_n h dX9_countOf_100 (i := 0) rfl rfl rfl ?_
  refine gf_X9_106 h dX9_countOf_101 h0 rfl ?_
  exact roI hR dX9_countOf_104 hf
def rm_X9_count : Room := { frames := 3, cells := 0, slots := 0, locals := 65 }
def f_X9_count (E : Env1) (M : Mem) (v0 : Nat) (v1 : Int32) : Option (Int32 × Mem) :=
  if (f_X9_in E M v1 (0 : Int32) (9 : Int32)) = 0 then (
    nm (f_X9_bad E M v0) fun x3 =>
    some (x3.1, x3.2))
  else (
    (f_X9_countOf E M v0 v1).bind fun x4 =>
    some (x4, M))
set_option maxRecDepth 100000 in
set_option maxHeartbeats 4000000 in
theorem ok_X9_count {E : Env1} (hE : WF E) (l0 : Launch) {M : Mem} {M' : Mem} {v0 : Nat} {v1 : Int32} {r : Int32} (h0 : isK E v0 8) (hf : f_X9_count E M v0 v1 = some (r, M')) : Met l0 yX9_count (wsA yX9_count cX9_count 2 (some .int)) rm_X9_count (CP E M [.ref v0, .int v1]) (CQi E r M') 0 0 (eA E) := by
  unfold f_X9_count at hf
  refine mtI l0 (by decide +kernel) (Nat.le_of_ble_eq_true rfl) (L0 := [some (.ref v0), some (.int v1)]) rfl (fun X h hR => ?_)
  refine G_iload_n h dX9_count_0 (i := 1) rfl rfl rfl ?_
  refine G_iconst h dX9_count_1 ki_0 rfl ?_
  refine G_bipush h dX9_count_2 kb_9 rfl ?_
  refine cl_X9_91 h (ok_X9_in hE _  (r := f_X9_in E M v1 (0 : Int32) (9 : Int32)) rfl) dX9_count_4 (as := [.int v1, .int (0 : Int32), .int (9 : Int32)]) rfl rfl ⟨rfl, rfl, Nat.le_of_ble_eq_true rfl, Nat.le_of_ble_eq_true rfl⟩ rfl (Nat.le_of_ble_eq_true rfl) (fun z1 => ?_)
  refine G_if_eq h dX9_count_7 (tgt := 18) (by decide) rfl (fun c2 => ?_) (fun c2 => ?_)
  · have hf := it_t c2 hf
    refine G_aload_n h dX9_count_18 (i := 0) rfl rfl rfl ?_
    obtain ⟨x3, hx3⟩ : ∃ x, x = f_X9_bad E M v0 := ⟨_, rfl⟩
    have hf := nm_eq hx3 hf
    refine cl_X9_95 h (ok_X9_bad hE _ h0 hx3.symm) dX9_count_19 h0 (as := []) rfl rfl ⟨rfl, rfl, Nat.le_of_ble_eq_true rfl, Nat.le_of_ble_eq_true rfl⟩ rfl (Nat.le_of_ble_eq_true rfl) ?_
    exact pwI hR dX9_count_22 hf
  · have hf := it_f c2 hf
    refine G_aload_n h dX9_count_10 (i := 0) rfl rfl rfl ?_
    refine G_iload_n h dX9_count_11 (i := 1) rfl rfl rfl ?_
    obtain ⟨x4, hx4, hf⟩ := bd hf
    refine cl_X9_301 h (ok_X9_countOf hE _ h0 hx4) dX9_count_12 h0 (as := [.int v1]) rfl rfl ⟨rfl, rfl, Nat.le_of_ble_eq_true rfl, Nat.le_of_ble_eq_true rfl⟩ rfl (Nat.le_of_ble_eq_true rfl) ?_
    refine G_goto h dX9_count_15 (tgt := 22) (by decide) ?_
    exact pwI hR dX9_count_22 hf
def rm_X9_mix : Room := { frames := 0, cells := 0, slots := 0, locals := 0 }
def f_X9_mix (E : Env1) (M : Mem) (v0 : Nat) (v1 : Int64) : Mem :=
  wl M v0 29 (((31 : Int64) * (ml M v0 29)) + v1)
set_option maxRecDepth 100000 in
set_option maxHeartbeats 4000000 in
theorem ok_X9_mix {E : Env1} (hE : WF E) (l0 : Launch) {M : Mem} {M' : Mem} {v0 : Nat} {v1 : Int64} (h0 : isK E v0 8) (hf : f_X9_mix E M v0 v1 = M') : Met l0 yX9_mix (wsA yX9_mix cX9_mix 3 none) rm_X9_mix (CP E M [.ref v0, .long v1]) (CQv E M') 0 0 (eA E) := by
  unfold f_X9_mix at hf
  refine mtV l0 (by decide +kernel) (Nat.le_of_ble_eq_true rfl) (L0 := [some (.ref v0), some (.long v1), none]) rfl (fun X h hR => ?_)
  refine G_aload_n h dX9_mix_0 (i := 0) rfl rfl rfl ?_
  refine G_ldc2 h q1399 dX9_mix_1 rfl ?_
  refine G_aload_n h dX9_mix_4 (i := 0) rfl rfl rfl ?_
  refine gf_X9_306 h dX9_mix_5 h0 rfl ?_
  refine G_lmul h dX9_mix_8 rfl ?_
  refine G_lload_n h dX9_mix_9 (i := 1) rfl rfl rfl ?_
  refine G_ladd h dX9_mix_10 rfl ?_
  refine pf_X9_306 h dX9_mix_11 h0 rfl ?_
  exact twV hR dX9_mix_14 hf
def rm_X9_digest : Room := { frames := 3, cells := 0, slots := 0, locals := 65 }
def b_X9_digest_L185 (E : Env1) (k185 : Mem → Nat → Int32 → (Option (Int64 × Mem))) (M : Mem) (v0 : Nat) (v1 : Int32) : Option (Int64 × Mem) :=
  if ((4 : Int32) * (mi M v0 6)) ≤ v1 then (
    nm (f_X9_mix E M v0 (ml M v0 25)) fun x2 =>
    nm (f_X9_mix E x2 v0 (ml x2 v0 26)) fun x3 =>
    some (ml x3 v0 29, x3))
  else (
    gd v1 24 (nm (f_X9_mix E M v0 ((mi M (rr E v0 14) (ix v1)).toInt64)) fun x5 =>
    k185 x5 v0 (v1 + 1)))
set_option maxRecDepth 100000 in
set_option maxHeartbeats 4000000 in
theorem ob_X9_digest_L185 {X : Ctx} {l0 : Launch} {E : Env1} (h : Cx X l0 E RX9 cX9_digest (some .long) 2 rm_X9_digest) (hE : WF E) {M' : Mem} {r : Int64} (hR : RetL X E cX9_digest r M') {k185 : Mem → Nat → Int32 → (Option (Int64 × Mem))} (hk185 : ∀ (M : Mem) (v0 : Nat) (v1 : Int32), isK E v0 8 → k185 M v0 v1 = some (r, M') → G X E (0, 0) 185 [some (.ref v0), some (.int v1)] [] M) {M : Mem} {v0 : Nat} {v1 : Int32} (h_v0 : isK E v0 8) (hf : b_X9_digest_L185 E k185 M v0 v1 = some (r, M')) : G X E (0, 0) 185 [some (.ref v0), some (.int v1)] [] M := by
  unfold b_X9_digest_L185 at hf
  refine G_iload_n h dX9_digest_185 (i := 1) rfl rfl rfl ?_
  refine G_iconst h dX9_digest_186 ki_4 rfl ?_
  refine G_aload_n h dX9_digest_187 (i := 0) rfl rfl rfl ?_
  refine gf_X9_85 h dX9_digest_188 h_v0 rfl ?_
  refine G_imul h dX9_digest_191 rfl ?_
  refine G_icmp_ge h dX9_digest_192 (tgt := 212) (by decide) rfl (fun c1 => ?_) (fun c1 => ?_)
  · have hf := it_t c1 hf
    refine G_aload_n h dX9_digest_212 (i := 0) rfl rfl rfl ?_
    refine G_aload_n h dX9_digest_213 (i := 0) rfl rfl rfl ?_
    refine gf_X9_274 h dX9_digest_214 h_v0 rfl ?_
    obtain ⟨x2, hx2⟩ : ∃ x, x = f_X9_mix E M v0 (ml M v0 25) := ⟨_, rfl⟩
    have hf := nm_eq hx2 hf
    refine cl_X9_311 h (ok_X9_mix hE _ h_v0 hx2.symm) dX9_digest_217 h_v0 (as := [.long (ml M v0 25)]) rfl rfl ⟨rfl, rfl, Nat.le_of_ble_eq_true rfl, Nat.le_of_ble_eq_true rfl⟩ rfl (Nat.le_of_ble_eq_true rfl) ?_
    refine G_aload_n h dX9_digest_220 (i := 0) rfl rfl rfl ?_
    refine G_aload_n h dX9_digest_221 (i := 0) rfl rfl rfl ?_
    refine gf_X9_56 h dX9_digest_222 h_v0 rfl ?_
    obtain ⟨x3, hx3⟩ : ∃ x, x = f_X9_mix E x2 v0 (ml x2 v0 26) := ⟨_, rfl⟩
    have hf := nm_eq hx3 hf
    refine cl_X9_311 h (ok_X9_mix hE _ h_v0 hx3.symm) dX9_digest_225 h_v0 (as := [.long (ml x2 v0 26)]) rfl rfl ⟨rfl, rfl, Nat.le_of_ble_eq_true rfl, Nat.le_of_ble_eq_true rfl⟩ rfl (Nat.le_of_ble_eq_true rfl) ?_
    refine G_aload_n h dX9_digest_228 (i := 0) rfl rfl rfl ?_
    refine gf_X9_306 h dX9_digest_229 h_v0 rfl ?_
    exact pwL hR dX9_digest_232 hf
  · have hf := it_f c1 hf
    refine G_aload_n h dX9_digest_195 (i := 0) rfl rfl rfl ?_
    refine G_aload_n h dX9_digest_196 (i := 0) rfl rfl rfl ?_
    refine gf_X9_34 h hE dX9_digest_197 h_v0 rfl ?_
    refine G_iload_n h dX9_digest_200 (i := 1) rfl rfl rfl ?_
    obtain ⟨g4, hf⟩ := gd_some hf
    refine G_iald h dX9_digest_201 ((w_8_14 hE h_v0).2) g4 (jx := (ix v1)) rfl rfl ?_
    refine G_i2l h dX9_digest_202 rfl ?_
    obtain ⟨x5, hx5⟩ : ∃ x, x = f_X9_mix E M v0 ((mi M (rr E v0 14) (ix v1)).toInt64) := ⟨_, rfl⟩
    have hf := nm_eq hx5 hf
    refine cl_X9_311 h (ok_X9_mix hE _ h_v0 hx5.symm) dX9_digest_203 h_v0 (as := [.long ((mi M (rr E v0 14) (ix v1)).toInt64)]) rfl rfl ⟨rfl, rfl, Nat.le_of_ble_eq_true rfl, Nat.le_of_ble_eq_true rfl⟩ rfl (Nat.le_of_ble_eq_true rfl) ?_
    refine G_iinc2 h dX9_digest_206 rfl ki_1 (by decide) (L' := [some (.ref v0), some (.int (v1 + 1))]) rfl rfl ?_
    refine G_goto h dX9_digest_209 (tgt := 185) (by decide) ?_
    exact hk185 _ _ _ h_v0 hf
def f_X9_digest_L185 (E : Env1) : Nat → Mem → Nat → Int32 → (Option (Int64 × Mem))
  | 0 => fun _ _ _ => none
  | n + 1 => b_X9_digest_L185 E (f_X9_digest_L185 E n)
theorem o_X9_digest_L185 {X : Ctx} {l0 : Launch} {E : Env1} (h : Cx X l0 E RX9 cX9_digest (some .long) 2 rm_X9_digest) (hE : WF E) {M' : Mem} {r : Int64} (hR : RetL X E cX9_digest r M') : ∀ (n : Nat) (M : Mem) (v0 : Nat) (v1 : Int32), isK E v0 8 → f_X9_digest_L185 E n M v0 v1 = some (r, M') → G X E (0, 0) 185 [some (.ref v0), some (.int v1)] [] M := by
  intro n
  induction n with
  | zero =>
    intro _ _ _ a0 hf
    have h0 : (none : Option (Int64 × Mem)) = some (r, M') := hf
    cases h0
  | succ n ih =>
    intro _ _ _ a0 hf
    exact ob_X9_digest_L185 h hE hR  ih a0 hf
def b_X9_digest_L156 (E : Env1) (k156 : Mem → Nat → Int32 → (Option (Int64 × Mem))) (M : Mem) (v0 : Nat) (v1 : Int32) : Option (Int64 × Mem) :=
  if ((4 : Int32) * (mi M v0 5)) ≤ v1 then (f_X9_digest_L185 E FU M v0 (0 : Int32))
  else (
    gd v1 24 (nm (f_X9_mix E M v0 ((mi M (rr E v0 13) (ix v1)).toInt64)) fun x3 =>
    k156 x3 v0 (v1 + 1)))
set_option maxRecDepth 100000 in
set_option maxHeartbeats 4000000 in
theorem ob_X9_digest_L156 {X : Ctx} {l0 : Launch} {E : Env1} (h : Cx X l0 E RX9 cX9_digest (some .long) 2 rm_X9_digest) (hE : WF E) {M' : Mem} {r : Int64} (hR : RetL X E cX9_digest r M') {k156 : Mem → Nat → Int32 → (Option (Int64 × Mem))} (hk156 : ∀ (M : Mem) (v0 : Nat) (v1 : Int32), isK E v0 8 → k156 M v0 v1 = some (r, M') → G X E (0, 0) 156 [some (.ref v0), some (.int v1)] [] M) {M : Mem} {v0 : Nat} {v1 : Int32} (h_v0 : isK E v0 8) (hf : b_X9_digest_L156 E k156 M v0 v1 = some (r, M')) : G X E (0, 0) 156 [some (.ref v0), some (.int v1)] [] M := by
  unfold b_X9_digest_L156 at hf
  refine G_iload_n h dX9_digest_156 (i := 1) rfl rfl rfl ?_
  refine G_iconst h dX9_digest_157 ki_4 rfl ?_
  refine G_aload_n h dX9_digest_158 (i := 0) rfl rfl rfl ?_
  refine gf_X9_82 h dX9_digest_159 h_v0 rfl ?_
  refine G_imul h dX9_digest_162 rfl ?_
  refine G_icmp_ge h dX9_digest_163 (tgt := 183) (by decide) rfl (fun c1 => ?_) (fun c1 => ?_)
  · have hf := it_t c1 hf
    refine G_iconst h dX9_digest_183 ki_0 rfl ?_
    refine G_istore_n h dX9_digest_184 (i := 1) rfl (by decide) (L' := [some (.ref v0), some (.int (0 : Int32))]) rfl rfl ?_
    exact o_X9_digest_L185 h hE hR  FU _ _ _ h_v0 hf
  · have hf := it_f c1 hf
    refine G_aload_n h dX9_digest_166 (i := 0) rfl rfl rfl ?_
    refine G_aload_n h dX9_digest_167 (i := 0) rfl rfl rfl ?_
    refine gf_X9_31 h hE dX9_digest_168 h_v0 rfl ?_
    refine G_iload_n h dX9_digest_171 (i := 1) rfl rfl rfl ?_
    obtain ⟨g2, hf⟩ := gd_some hf
    refine G_iald h dX9_digest_172 ((w_8_13 hE h_v0).2) g2 (jx := (ix v1)) rfl rfl ?_
    refine G_i2l h dX9_digest_173 rfl ?_
    obtain ⟨x3, hx3⟩ : ∃ x, x = f_X9_mix E M v0 ((mi M (rr E v0 13) (ix v1)).toInt64) := ⟨_, rfl⟩
    have hf := nm_eq hx3 hf
    refine cl_X9_311 h (ok_X9_mix hE _ h_v0 hx3.symm) dX9_digest_174 h_v0 (as := [.long ((mi M (rr E v0 13) (ix v1)).toInt64)]) rfl rfl ⟨rfl, rfl, Nat.le_of_ble_eq_true rfl, Nat.le_of_ble_eq_true rfl⟩ rfl (Nat.le_of_ble_eq_true rfl) ?_
    refine G_iinc2 h dX9_digest_177 rfl ki_1 (by decide) (L' := [some (.ref v0), some (.int (v1 + 1))]) rfl rfl ?_
    refine G_goto h dX9_digest_180 (tgt := 156) (by decide) ?_
    exact hk156 _ _ _ h_v0 hf
def f_X9_digest_L156 (E : Env1) : Nat → Mem → Nat → Int32 → (Option (Int64 × Mem))
  | 0 => fun _ _ _ => none
  | n + 1 => b_X9_digest_L156 E (f_X9_digest_L156 E n)
theorem o_X9_digest_L156 {X : Ctx} {l0 : Launch} {E : Env1} (h : Cx X l0 E RX9 cX9_digest (some .long) 2 rm_X9_digest) (hE : WF E) {M' : Mem} {r : Int64} (hR : RetL X E cX9_digest r M') : ∀ (n : Nat) (M : Mem) (v0 : Nat) (v1 : Int32), isK E v0 8 → f_X9_digest_L156 E n M v0 v1 = some (r, M') → G X E (0, 0) 156 [some (.ref v0), some (.int v1)] [] M := by
  intro n
  induction n with
  | zero =>
    intro _ _ _ a0 hf
    have h0 : (none : Option (Int64 × Mem)) = some (r, M') := hf
    cases h0
  | succ n ih =>
    intro _ _ _ a0 hf
    exact ob_X9_digest_L156 h hE hR  ih a0 hf
def b_X9_digest_L127 (E : Env1) (k127 : Mem → Nat → Int32 → (Option (Int64 × Mem))) (M : Mem) (v0 : Nat) (v1 : Int32) : Option (Int64 × Mem) :=
  if ((3 : Int32) * (mi M v0 4)) ≤ v1 then (f_X9_digest_L156 E FU M v0 (0 : Int32))
  else (
    gd v1 18 (nm (f_X9_mix E M v0 ((mi M (rr E v0 12) (ix v1)).toInt64)) fun x3 =>
    k127 x3 v0 (v1 + 1)))
set_option maxRecDepth 100000 in
set_option maxHeartbeats 4000000 in
theorem ob_X9_digest_L127 {X : Ctx} {l0 : Launch} {E : Env1} (h : Cx X l0 E RX9 cX9_digest (some .long) 2 rm_X9_digest) (hE : WF E) {M' : Mem} {r : Int64} (hR : RetL X E cX9_digest r M') {k127 : Mem → Nat → Int32 → (Option (Int64 × Mem))} (hk127 : ∀ (M : Mem) (v0 : Nat) (v1 : Int32), isK E v0 8 → k127 M v0 v1 = some (r, M') → G X E (0, 0) 127 [some (.ref v0), some (.int v1)] [] M) {M : Mem} {v0 : Nat} {v1 : Int32} (h_v0 : isK E v0 8) (hf : b_X9_digest_L127 E k127 M v0 v1 = some (r, M')) : G X E (0, 0) 127 [some (.ref v0), some (.int v1)] [] M := by
  unfold b_X9_digest_L127 at hf
  refine G_iload_n h dX9_digest_127 (i := 1) rfl rfl rfl ?_
  refine G_iconst h dX9_digest_128 ki_3 rfl ?_
  refine G_aload_n h dX9_digest_129 (i := 0) rfl rfl rfl ?_
  refine gf_X9_79 h dX9_digest_130 h_v0 rfl ?_
  refine G_imul h dX9_digest_133 rfl ?_
  refine G_icmp_ge h dX9_digest_134 (tgt := 154) (by decide) rfl (fun c1 => ?_) (fun c1 => ?_)
  · have hf := it_t c1 hf
    refine G_iconst h dX9_digest_154 ki_0 rfl ?_
    refine G_istore_n h dX9_digest_155 (i := 1) rfl (by decide) (L' := [some (.ref v0), some (.int (0 : Int32))]) rfl rfl ?_
    exact o_X9_digest_L156 h hE hR  FU _ _ _ h_v0 hf
  · have hf := it_f c1 hf
    refine G_aload_n h dX9_digest_137 (i := 0) rfl rfl rfl ?_
    refine G_aload_n h dX9_digest_138 (i := 0) rfl rfl rfl ?_
    refine gf_X9_28 h hE dX9_digest_139 h_v0 rfl ?_
    refine G_iload_n h dX9_digest_142 (i := 1) rfl rfl rfl ?_
    obtain ⟨g2, hf⟩ := gd_some hf
    refine G_iald h dX9_digest_143 ((w_8_12 hE h_v0).2) g2 (jx := (ix v1)) rfl rfl ?_
    refine G_i2l h dX9_digest_144 rfl ?_
    obtain ⟨x3, hx3⟩ : ∃ x, x = f_X9_mix E M v0 ((mi M (rr E v0 12) (ix v1)).toInt64) := ⟨_, rfl⟩
    have hf := nm_eq hx3 hf
    refine cl_X9_311 h (ok_X9_mix hE _ h_v0 hx3.symm) dX9_digest_145 h_v0 (as := [.long ((mi M (rr E v0 12) (ix v1)).toInt64)]) rfl rfl ⟨rfl, rfl, Nat.le_of_ble_eq_true rfl, Nat.le_of_ble_eq_true rfl⟩ rfl (Nat.le_of_ble_eq_true rfl) ?_
    refine G_iinc2 h dX9_digest_148 rfl ki_1 (by decide) (L' := [some (.ref v0), some (.int (v1 + 1))]) rfl rfl ?_
    refine G_goto h dX9_digest_151 (tgt := 127) (by decide) ?_
    exact hk127 _ _ _ h_v0 hf
def f_X9_digest_L127 (E : Env1) : Nat → Mem → Nat → Int32 → (Option (Int64 × Mem))
  | 0 => fun _ _ _ => none
  | n + 1 => b_X9_digest_L127 E (f_X9_digest_L127 E n)
theorem o_X9_digest_L127 {X : Ctx} {l0 : Launch} {E : Env1} (h : Cx X l0 E RX9 cX9_digest (some .long) 2 rm_X9_digest) (hE : WF E) {M' : Mem} {r : Int64} (hR : RetL X E cX9_digest r M') : ∀ (n : Nat) (M : Mem) (v0 : Nat) (v1 : Int32), isK E v0 8 → f_X9_digest_L127 E n M v0 v1 = some (r, M') → G X E (0, 0) 127 [some (.ref v0), some (.int v1)] [] M := by
  intro n
  induction n with
  | zero =>
    intro _ _ _ a0 hf
    have h0 : (none : Option (Int64 × Mem)) = some (r, M') := hf
    cases h0
  | succ n ih =>
    intro _ _ _ a0 hf
    exact ob_X9_digest_L127 h hE hR  ih a0 hf
def b_X9_digest_L67 (E : Env1) (k67 : Mem → Nat → Int32 → (Option (Int64 × Mem))) (M : Mem) (v0 : Nat) (v1 : Int32) : Option (Int64 × Mem) :=
  if (mi M v0 1) ≤ v1 then (f_X9_digest_L127 E FU M v0 (0 : Int32))
  else (
    gd v1 6 (nm (f_X9_mix E M v0 ((mi M (rr E v0 7) (ix v1)).toInt64)) fun x3 =>
    nm (f_X9_mix E x3 v0 ((mi x3 (rr E v0 8) (ix v1)).toInt64)) fun x4 =>
    nm (f_X9_mix E x4 v0 ((mi x4 (rr E v0 9) (ix v1)).toInt64)) fun x5 =>
    nm (f_X9_mix E x5 v0 ((mi x5 (rr E v0 10) (ix v1)).toInt64)) fun x6 =>
    k67 x6 v0 (v1 + 1)))
set_option maxRecDepth 100000 in
set_option maxHeartbeats 4000000 in
theorem ob_X9_digest_L67 {X : Ctx} {l0 : Launch} {E : Env1} (h : Cx X l0 E RX9 cX9_digest (some .long) 2 rm_X9_digest) (hE : WF E) {M' : Mem} {r : Int64} (hR : RetL X E cX9_digest r M') {k67 : Mem → Nat → Int32 → (Option (Int64 × Mem))} (hk67 : ∀ (M : Mem) (v0 : Nat) (v1 : Int32), isK E v0 8 → k67 M v0 v1 = some (r, M') → G X E (0, 0) 67 [some (.ref v0), some (.int v1)] [] M) {M : Mem} {v0 : Nat} {v1 : Int32} (h_v0 : isK E v0 8) (hf : b_X9_digest_L67 E k67 M v0 v1 = some (r, M')) : G X E (0, 0) 67 [some (.ref v0), some (.int v1)] [] M := by
  unfold b_X9_digest_L67 at hf
  refine G_iload_n h dX9_digest_67 (i := 1) rfl rfl rfl ?_
  refine G_aload_n h dX9_digest_68 (i := 0) rfl rfl rfl ?_
  refine gf_X9_69 h dX9_digest_69 h_v0 rfl ?_
  refine G_icmp_ge h dX9_digest_72 (tgt := 125) (by decide) rfl (fun c1 => ?_) (fun c1 => ?_)
  · have hf := it_t c1 hf
    refine G_iconst h dX9_digest_125 ki_0 rfl ?_
    refine G_istore_n h dX9_digest_126 (i := 1) rfl (by decide) (L' := [some (.ref v0), some (.int (0 : Int32))]) rfl rfl ?_
    exact o_X9_digest_L127 h hE hR  FU _ _ _ h_v0 hf
  · have hf := it_f c1 hf
    refine G_aload_n h dX9_digest_75 (i := 0) rfl rfl rfl ?_
    refine G_aload_n h dX9_digest_76 (i := 0) rfl rfl rfl ?_
    refine gf_X9_13 h hE dX9_digest_77 h_v0 rfl ?_
    refine G_iload_n h dX9_digest_80 (i := 1) rfl rfl rfl ?_
    obtain ⟨g2, hf⟩ := gd_some hf
    refine G_iald h dX9_digest_81 ((w_8_7 hE h_v0).2) g2 (jx := (ix v1)) rfl rfl ?_
    refine G_i2l h dX9_digest_82 rfl ?_
    obtain ⟨x3, hx3⟩ : ∃ x, x = f_X9_mix E M v0 ((mi M (rr E v0 7) (ix v1)).toInt64) := ⟨_, rfl⟩
    have hf := nm_eq hx3 hf
    refine cl_X9_311 h (ok_X9_mix hE _ h_v0 hx3.symm) dX9_digest_83 h_v0 (as := [.long ((mi M (rr E v0 7) (ix v1)).toInt64)]) rfl rfl ⟨rfl, rfl, Nat.le_of_ble_eq_true rfl, Nat.le_of_ble_eq_true rfl⟩ rfl (Nat.le_of_ble_eq_true rfl) ?_
    refine G_aload_n h dX9_digest_86 (i := 0) rfl rfl rfl ?_
    refine G_aload_n h dX9_digest_87 (i := 0) rfl rfl rfl ?_
    refine gf_X9_16 h hE dX9_digest_88 h_v0 rfl ?_
    refine G_iload_n h dX9_digest_91 (i := 1) rfl rfl rfl ?_
    refine G_iald h dX9_digest_92 ((w_8_8 hE h_v0).2) g2 (jx := (ix v1)) rfl rfl ?_
    refine G_i2l h dX9_digest_93 rfl ?_
    obtain ⟨x4, hx4⟩ : ∃ x, x = f_X9_mix E x3 v0 ((mi x3 (rr E v0 8) (ix v1)).toInt64) := ⟨_, rfl⟩
    have hf := nm_eq hx4 hf
    refine cl_X9_311 h (ok_X9_mix hE _ h_v0 hx4.symm) dX9_digest_94 h_v0 (as := [.long ((mi x3 (rr E v0 8) (ix v1)).toInt64)]) rfl rfl ⟨rfl, rfl, Nat.le_of_ble_eq_true rfl, Nat.le_of_ble_eq_true rfl⟩ rfl (Nat.le_of_ble_eq_true rfl) ?_
    refine G_aload_n h dX9_digest_97 (i := 0) rfl rfl rfl ?_
    refine G_aload_n h dX9_digest_98 (i := 0) rfl rfl rfl ?_
    refine gf_X9_19 h hE dX9_digest_99 h_v0 rfl ?_
    refine G_iload_n h dX9_digest_102 (i := 1) rfl rfl rfl ?_
    refine G_iald h dX9_digest_103 ((w_8_9 hE h_v0).2) g2 (jx := (ix v1)) rfl rfl ?_
    refine G_i2l h dX9_digest_104 rfl ?_
    obtain ⟨x5, hx5⟩ : ∃ x, x = f_X9_mix E x4 v0 ((mi x4 (rr E v0 9) (ix v1)).toInt64) := ⟨_, rfl⟩
    have hf := nm_eq hx5 hf
    refine cl_X9_311 h (ok_X9_mix hE _ h_v0 hx5.symm) dX9_digest_105 h_v0 (as := [.long ((mi x4 (rr E v0 9) (ix v1)).toInt64)]) rfl rfl ⟨rfl, rfl, Nat.le_of_ble_eq_true rfl, Nat.le_of_ble_eq_true rfl⟩ rfl (Nat.le_of_ble_eq_true rfl) ?_
    refine G_aload_n h dX9_digest_108 (i := 0) rfl rfl rfl ?_
    refine G_aload_n h dX9_digest_109 (i := 0) rfl rfl rfl ?_
    refine gf_X9_22 h hE dX9_digest_110 h_v0 rfl ?_
    refine G_iload_n h dX9_digest_113 (i := 1) rfl rfl rfl ?_
    refine G_iald h dX9_digest_114 ((w_8_10 hE h_v0).2) g2 (jx := (ix v1)) rfl rfl ?_
    refine G_i2l h dX9_digest_115 rfl ?_
    obtain ⟨x6, hx6⟩ : ∃ x, x = f_X9_mix E x5 v0 ((mi x5 (rr E v0 10) (ix v1)).toInt64) := ⟨_, rfl⟩
    have hf := nm_eq hx6 hf
    refine cl_X9_311 h (ok_X9_mix hE _ h_v0 hx6.symm) dX9_digest_116 h_v0 (as := [.long ((mi x5 (rr E v0 10) (ix v1)).toInt64)]) rfl rfl ⟨rfl, rfl, Nat.le_of_ble_eq_true rfl, Nat.le_of_ble_eq_true rfl⟩ rfl (Nat.le_of_ble_eq_true rfl) ?_
    refine G_iinc2 h dX9_digest_119 rfl ki_1 (by decide) (L' := [some (.ref v0), some (.int (v1 + 1))]) rfl rfl ?_
    refine G_goto h dX9_digest_122 (tgt := 67) (by decide) ?_
    exact hk67 _ _ _ h_v0 hf
def f_X9_digest_L67 (E : Env1) : Nat → Mem → Nat → Int32 → (Option (Int64 × Mem))
  | 0 => fun _ _ _ => none
  | n + 1 => b_X9_digest_L67 E (f_X9_digest_L67 E n)
theorem o_X9_digest_L67 {X : Ctx} {l0 : Launch} {E : Env1} (h : Cx X l0 E RX9 cX9_digest (some .long) 2 rm_X9_digest) (hE : WF E) {M' : Mem} {r : Int64} (hR : RetL X E cX9_digest r M') : ∀ (n : Nat) (M : Mem) (v0 : Nat) (v1 : Int32), isK E v0 8 → f_X9_digest_L67 E n M v0 v1 = some (r, M') → G X E (0, 0) 67 [some (.ref v0), some (.int v1)] [] M := by
  intro n
  induction n with
  | zero =>
    intro _ _ _ a0 hf
    have h0 : (none : Option (Int64 × Mem)) = some (r, M') := hf
    cases h0
  | succ n ih =>
    intro _ _ _ a0 hf
    exact ob_X9_digest_L67 h hE hR  ih a0 hf
def b_X9_digest_L33 (E : Env1) (k33 : Mem → Nat → Int32 → (Option (Int64 × Mem))) (M : Mem) (v0 : Nat) (v1 : Int32) : Option (Int64 × Mem) :=
  if (8 : Int32) ≤ v1 then (
    nm (f_X9_mix E M v0 ((mi M v0 3).toInt64)) fun x2 =>
    f_X9_digest_L67 E FU x2 v0 (0 : Int32))
  else (
    gd v1 8 (nm (f_X9_mix E M v0 ((mi M (rr E v0 11) (ix v1)).toInt64)) fun x4 =>
    k33 x4 v0 (v1 + 1)))
set_option maxRecDepth 100000 in
set_option maxHeartbeats 4000000 in
theorem ob_X9_digest_L33 {X : Ctx} {l0 : Launch} {E : Env1} (h : Cx X l0 E RX9 cX9_digest (some .long) 2 rm_X9_digest) (hE : WF E) {M' : Mem} {r : Int64} (hR : RetL X E cX9_digest r M') {k33 : Mem → Nat → Int32 → (Option (Int64 × Mem))} (hk33 : ∀ (M : Mem) (v0 : Nat) (v1 : Int32), isK E v0 8 → k33 M v0 v1 = some (r, M') → G X E (0, 0) 33 [some (.ref v0), some (.int v1)] [] M) {M : Mem} {v0 : Nat} {v1 : Int32} (h_v0 : isK E v0 8) (hf : b_X9_digest_L33 E k33 M v0 v1 = some (r, M')) : G X E (0, 0) 33 [some (.ref v0), some (.int v1)] [] M := by
  unfold b_X9_digest_L33 at hf
  refine G_iload_n h dX9_digest_33 (i := 1) rfl rfl rfl ?_
  refine G_bipush h dX9_digest_34 kb_8 rfl ?_
  refine G_icmp_ge h dX9_digest_36 (tgt := 56) (by decide) rfl (fun c1 => ?_) (fun c1 => ?_)
  · have hf := it_t c1 hf
    refine G_aload_n h dX9_digest_56 (i := 0) rfl rfl rfl ?_
    refine G_aload_n h dX9_digest_57 (i := 0) rfl rfl rfl ?_
    refine gf_X9_76 h dX9_digest_58 h_v0 rfl ?_
    refine G_i2l h dX9_digest_61 rfl ?_
    obtain ⟨x2, hx2⟩ : ∃ x, x = f_X9_mix E M v0 ((mi M v0 3).toInt64) := ⟨_, rfl⟩
    have hf := nm_eq hx2 hf
    refine cl_X9_311 h (ok_X9_mix hE _ h_v0 hx2.symm) dX9_digest_62 h_v0 (as := [.long ((mi M v0 3).toInt64)]) rfl rfl ⟨rfl, rfl, Nat.le_of_ble_eq_true rfl, Nat.le_of_ble_eq_true rfl⟩ rfl (Nat.le_of_ble_eq_true rfl) ?_
    refine G_iconst h dX9_digest_65 ki_0 rfl ?_
    refine G_istore_n h dX9_digest_66 (i := 1) rfl (by decide) (L' := [some (.ref v0), some (.int (0 : Int32))]) rfl rfl ?_
    exact o_X9_digest_L67 h hE hR  FU _ _ _ h_v0 hf
  · have hf := it_f c1 hf
    refine G_aload_n h dX9_digest_39 (i := 0) rfl rfl rfl ?_
    refine G_aload_n h dX9_digest_40 (i := 0) rfl rfl rfl ?_
    refine gf_X9_25 h hE dX9_digest_41 h_v0 rfl ?_
    refine G_iload_n h dX9_digest_44 (i := 1) rfl rfl rfl ?_
    obtain ⟨g3, hf⟩ := gd_some hf
    refine G_iald h dX9_digest_45 ((w_8_11 hE h_v0).2) g3 (jx := (ix v1)) rfl rfl ?_
    refine G_i2l h dX9_digest_46 rfl ?_
    obtain ⟨x4, hx4⟩ : ∃ x, x = f_X9_mix E M v0 ((mi M (rr E v0 11) (ix v1)).toInt64) := ⟨_, rfl⟩
    have hf := nm_eq hx4 hf
    refine cl_X9_311 h (ok_X9_mix hE _ h_v0 hx4.symm) dX9_digest_47 h_v0 (as := [.long ((mi M (rr E v0 11) (ix v1)).toInt64)]) rfl rfl ⟨rfl, rfl, Nat.le_of_ble_eq_true rfl, Nat.le_of_ble_eq_true rfl⟩ rfl (Nat.le_of_ble_eq_true rfl) ?_
    refine G_iinc2 h dX9_digest_50 rfl ki_1 (by decide) (L' := [some (.ref v0), some (.int (v1 + 1))]) rfl rfl ?_
    refine G_goto h dX9_digest_53 (tgt := 33) (by decide) ?_
    exact hk33 _ _ _ h_v0 hf
def f_X9_digest_L33 (E : Env1) : Nat → Mem → Nat → Int32 → (Option (Int64 × Mem))
  | 0 => fun _ _ _ => none
  | n + 1 => b_X9_digest_L33 E (f_X9_digest_L33 E n)
theorem o_X9_digest_L33 {X : Ctx} {l0 : Launch} {E : Env1} (h : Cx X l0 E RX9 cX9_digest (some .long) 2 rm_X9_digest) (hE : WF E) {M' : Mem} {r : Int64} (hR : RetL X E cX9_digest r M') : ∀ (n : Nat) (M : Mem) (v0 : Nat) (v1 : Int32), isK E v0 8 → f_X9_digest_L33 E n M v0 v1 = some (r, M') → G X E (0, 0) 33 [some (.ref v0), some (.int v1)] [] M := by
  intro n
  induction n with
  | zero =>
    intro _ _ _ a0 hf
    have h0 : (none : Option (Int64 × Mem)) = some (r, M') := hf
    cases h0
  | succ n ih =>
    intro _ _ _ a0 hf
    exact ob_X9_digest_L33 h hE hR  ih a0 hf
def b_X9_digest_L9 (E : Env1) (k9 : Mem → Nat → Int32 → (Option (Int64 × Mem))) (M : Mem) (v0 : Nat) (v1 : Int32) : Option (Int64 × Mem) :=
  if (9 : Int32) < v1 then (f_X9_digest_L33 E FU M v0 (0 : Int32))
  else (
    (f_X9_countOf E M v0 v1).bind fun x2 =>
    nm (f_X9_mix E M v0 x2.toInt64) fun x3 =>
    k9 x3 v0 (v1 + 1))
set_option maxRecDepth 100000 in
set_option maxHeartbeats 4000000 in
theorem ob_X9_digest_L9 {X : Ctx} {l0 : Launch} {E : Env1} (h : Cx X l0 E RX9 cX9_digest (some .long) 2 rm_X9_digest) (hE : WF E) {M' : Mem} {r : Int64} (hR : RetL X E cX9_digest r M') {k9 : Mem → Nat → Int32 → (Option (Int64 × Mem))} (hk9 : ∀ (M : Mem) (v0 : Nat) (v1 : Int32), isK E v0 8 → k9 M v0 v1 = some (r, M') → G X E (0, 0) 9 [some (.ref v0), some (.int v1)] [] M) {M : Mem} {v0 : Nat} {v1 : Int32} (h_v0 : isK E v0 8) (hf : b_X9_digest_L9 E k9 M v0 v1 = some (r, M')) : G X E (0, 0) 9 [some (.ref v0), some (.int v1)] [] M := by
  unfold b_X9_digest_L9 at hf
  refine G_iload_n h dX9_digest_9 (i := 1) rfl rfl rfl ?_
  refine G_bipush h dX9_digest_10 kb_9 rfl ?_
  refine G_icmp_gt h dX9_digest_12 (tgt := 31) (by decide) rfl (fun c1 => ?_) (fun c1 => ?_)
  · have hf := it_t c1 hf
    refine G_iconst h dX9_digest_31 ki_0 rfl ?_
    refine G_istore_n h dX9_digest_32 (i := 1) rfl (by decide) (L' := [some (.ref v0), some (.int (0 : Int32))]) rfl rfl ?_
    exact o_X9_digest_L33 h hE hR  FU _ _ _ h_v0 hf
  · have hf := it_f c1 hf
    refine G_aload_n h dX9_digest_15 (i := 0) rfl rfl rfl ?_
    refine G_aload_n h dX9_digest_16 (i := 0) rfl rfl rfl ?_
    refine G_iload_n h dX9_digest_17 (i := 1) rfl rfl rfl ?_
    obtain ⟨x2, hx2, hf⟩ := bd hf
    refine cl_X9_301 h (ok_X9_countOf hE _ h_v0 hx2) dX9_digest_18 h_v0 (as := [.int v1]) rfl rfl ⟨rfl, rfl, Nat.le_of_ble_eq_true rfl, Nat.le_of_ble_eq_true rfl⟩ rfl (Nat.le_of_ble_eq_true rfl) ?_
    refine G_i2l h dX9_digest_21 rfl ?_
    obtain ⟨x3, hx3⟩ : ∃ x, x = f_X9_mix E M v0 x2.toInt64 := ⟨_, rfl⟩
    have hf := nm_eq hx3 hf
    refine cl_X9_311 h (ok_X9_mix hE _ h_v0 hx3.symm) dX9_digest_22 h_v0 (as := [.long x2.toInt64]) rfl rfl ⟨rfl, rfl, Nat.le_of_ble_eq_true rfl, Nat.le_of_ble_eq_true rfl⟩ rfl (Nat.le_of_ble_eq_true rfl) ?_
    refine G_iinc2 h dX9_digest_25 rfl ki_1 (by decide) (L' := [some (.ref v0), some (.int (v1 + 1))]) rfl rfl ?_
    refine G_goto h dX9_digest_28 (tgt := 9) (by decide) ?_
    exact hk9 _ _ _ h_v0 hf
def f_X9_digest_L9 (E : Env1) : Nat → Mem → Nat → Int32 → (Option (Int64 × Mem))
  | 0 => fun _ _ _ => none
  | n + 1 => b_X9_digest_L9 E (f_X9_digest_L9 E n)
theorem o_X9_digest_L9 {X : Ctx} {l0 : Launch} {E : Env1} (h : Cx X l0 E RX9 cX9_digest (some .long) 2 rm_X9_digest) (hE : WF E) {M' : Mem} {r : Int64} (hR : RetL X E cX9_digest r M') : ∀ (n : Nat) (M : Mem) (v0 : Nat) (v1 : Int32), isK E v0 8 → f_X9_digest_L9 E n M v0 v1 = some (r, M') → G X E (0, 0) 9 [some (.ref v0), some (.int v1)] [] M := by
  intro n
  induction n with
  | zero =>
    intro _ _ _ a0 hf
    have h0 : (none : Option (Int64 × Mem)) = some (r, M') := hf
    cases h0
  | succ n ih =>
    intro _ _ _ a0 hf
    exact ob_X9_digest_L9 h hE hR  ih a0 hf
def f_X9_digest (E : Env1) (M : Mem) (v0 : Nat) : Option (Int64 × Mem) :=
  f_X9_digest_L9 E FU (wl M v0 29 (1571 : Int64)) v0 (0 : Int32)
set_option maxRecDepth 100000 in
set_option maxHeartbeats 4000000 in
theorem ok_X9_digest {E : Env1} (hE : WF E) (l0 : Launch) {M : Mem} {M' : Mem} {v0 : Nat} {r : Int64} (h0 : isK E v0 8) (hf : f_X9_digest E M v0 = some (r, M')) : Met l0 yX9_digest (wsA yX9_digest cX9_digest 2 (some .long)) rm_X9_digest (CP E M [.ref v0]) (CQl E r M') 0 0 (eA E) := by
  unfold f_X9_digest at hf
  refine mtL l0 (by decide +kernel) (Nat.le_of_ble_eq_true rfl) (L0 := [some (.ref v0), none]) rfl (fun X h hR => ?_)
  refine G_aload_n h dX9_digest_0 (i := 0) rfl rfl rfl ?_
  refine G_ldc2 h q1394 dX9_digest_1 rfl ?_
  refine pf_X9_306 h dX9_digest_4 h0 rfl ?_
  refine G_iconst h dX9_digest_7 ki_0 rfl ?_
  refine G_istore_n h dX9_digest_8 (i := 1) rfl (by decide) (L' := [some (.ref v0), some (.int (0 : Int32))]) rfl rfl ?_
  exact o_X9_digest_L9 h hE hR  FU _ _ _ h0 hf
def rm_X9_isMay : Room := { frames := 0, cells := 0, slots := 0, locals := 0 }
def f_X9_isMay (E : Env1) (M : Mem) (v0 : Nat) (v1 : Int32) (v2 : Int32) : Option (Int32) :=
  gd (((4 : Int32) * v1) + (v2 / (64 : Int32))) 164 (some (if (lg_cmp (((ml M (rr E v0 23) (ix (((4 : Int32) * v1) + (v2 / (64 : Int32))))) >>> ((v2 - v2 / (64 : Int32) * (64 : Int32)).toInt64 &&& 63)) &&& (1 : Int64)) (1 : Int64)) = 0 then (1 : Int32) else (0 : Int32)))
set_option maxRecDepth 100000 in
set_option maxHeartbeats 4000000 in
theorem ok_X9_isMay {E : Env1} (hE : WF E) (l0 : Launch) {M : Mem} {v0 : Nat} {v1 : Int32} {v2 : Int32} {r : Int32} (h0 : isK E v0 8) (hf : f_X9_isMay E M v0 v1 v2 = some r) : Met l0 yX9_isMay (wsA yX9_isMay cX9_isMay 3 (some .boolean)) rm_X9_isMay (CP E M [.ref v0, .int v1, .int v2]) (CQz E r M) 0 0 (eA E) := by
  unfold f_X9_isMay at hf
  refine mtZ l0 (by decide +kernel) (Nat.le_of_ble_eq_true rfl) (L0 := [some (.ref v0), some (.int v1), some (.int v2)]) rfl (fun X h hR => ?_)
  refine G_aload_n h dX9_isMay_0 (i := 0) rfl rfl rfl ?_
  refine gf_X9_49 h hE dX9_isMay_1 h0 rfl ?_
  refine G_iconst h dX9_isMay_4 ki_4 rfl ?_
  refine G_iload_n h dX9_isMay_5 (i := 1) rfl rfl rfl ?_
  refine G_imul h dX9_isMay_6 rfl ?_
  refine G_iload_n h dX9_isMay_7 (i := 2) rfl rfl rfl ?_
  refine G_bipush h dX9_isMay_8 kb_64 rfl ?_
  refine G_idiv h dX9_isMay_10 (by decide) rfl ?_
  refine G_iadd h dX9_isMay_11 rfl ?_
  obtain ⟨g1, hf⟩ := gd_some hf
  refine G_lald h dX9_isMay_12 ((w_8_23 hE h0).2) g1 (jx := (ix (((4 : Int32) * v1) + (v2 / (64 : Int32))))) rfl rfl ?_
  refine G_iload_n h dX9_isMay_13 (i := 2) rfl rfl rfl ?_
  refine G_bipush h dX9_isMay_14 kb_64 rfl ?_
  refine G_irem h dX9_isMay_16 (by decide) rfl ?_
  refine G_lshr h dX9_isMay_17 rfl ?_
  refine G_lconst h dX9_isMay_18 kl_1 rfl ?_
  refine G_land h dX9_isMay_19 rfl ?_
  refine G_lconst h dX9_isMay_20 kl_1 rfl ?_
  refine G_lcmp h dX9_isMay_21 rfl ?_
  have hJ : G X E (0, 0) 30 [some (.ref v0), some (.int v1), some (.int v2)] [.int (if (lg_cmp (((ml M (rr E v0 23) (ix (((4 : Int32) * v1) + (v2 / (64 : Int32))))) >>> ((v2 - v2 / (64 : Int32) * (64 : Int32)).toInt64 &&& 63)) &&& (1 : Int64)) (1 : Int64)) = 0 then (1 : Int32) else (0 : Int32))] M := by
    exact roZ hR dX9_isMay_30 (ite_01 (Or.inr rfl) (Or.inl rfl)) hf
  refine G_if_ne h dX9_isMay_22 (tgt := 29) (by decide) rfl (fun c2 => ?_) (fun c2 => ?_)
  · refine G_iconst h dX9_isMay_29 ki_0 rfl ?_
    exact G_ifn c2 hJ
  · refine G_iconst h dX9_isMay_25 ki_1 rfl ?_
    refine G_goto h dX9_isMay_26 (tgt := 30) (by decide) ?_
    exact G_ifp c2 hJ
def rm_X9_does : Room := { frames := 1, cells := 0, slots := 0, locals := 22 }
def b_X9_does_L15 (E : Env1) (M : Mem) (k15 : Nat → Int32 → Int32 → Int32 → (Option (Int32))) (v0 : Nat) (v1 : Int32) (v2 : Int32) (v3 : Int32) : Option (Int32) :=
  gd (((mi M v0 2) + v1) - ((mi M v0 2) + v1) / (24 : Int32) * (24 : Int32)) 24 (if (f_X9_has E M (v2 &&& (mi M (rr E v0 24) (ix (((mi M v0 2) + v1) - ((mi M v0 2) + v1) / (24 : Int32) * (24 : Int32))))) v3) = 0 then (k15 v0 v1 v2 (v3 + 1))
  else (
    (f_X9_isMay E M v0 (v1 + (1 : Int32)) (v2 &&& (((1 : Int32) <<< (v3 &&& 31)) ^^^ (-1 : Int32)))).bind fun x5 =>
    if x5 = 0 then (k15 v0 v1 v2 (v3 + 1))
    else (some v3)))
set_option maxRecDepth 100000 in
set_option maxHeartbeats 4000000 in
theorem ob_X9_does_L15 {X : Ctx} {l0 : Launch} {E : Env1} (h : Cx X l0 E RX9 cX9_does (some .int) 4 rm_X9_does) (hE : WF E) {M : Mem} {r : Int32} (hR : RetI X E cX9_does r M) {k15 : Nat → Int32 → Int32 → Int32 → (Option (Int32))} (hk15 : ∀ (v0 : Nat) (v1 : Int32) (v2 : Int32) (v3 : Int32), isK E v0 8 → k15 v0 v1 v2 v3 = some r → G X E (0, 0) 15 [some (.ref v0), some (.int v1), some (.int v2), some (.int v3)] [] M) {v0 : Nat} {v1 : Int32} {v2 : Int32} {v3 : Int32} (h_v0 : isK E v0 8) (hf : b_X9_does_L15 E M k15 v0 v1 v2 v3 = some r) : G X E (0, 0) 15 [some (.ref v0), some (.int v1), some (.int v2), some (.int v3)] [] M := by
  unfold b_X9_does_L15 at hf
  refine G_iload_n h dX9_does_15 (i := 2) rfl rfl rfl ?_
  refine G_aload_n h dX9_does_16 (i := 0) rfl rfl rfl ?_
  refine gf_X9_53 h hE dX9_does_17 h_v0 rfl ?_
  refine G_aload_n h dX9_does_20 (i := 0) rfl rfl rfl ?_
  refine gf_X9_73 h dX9_does_21 h_v0 rfl ?_
  refine G_iload_n h dX9_does_24 (i := 1) rfl rfl rfl ?_
  refine G_iadd h dX9_does_25 rfl ?_
  refine G_bipush h dX9_does_26 kb_24 rfl ?_
  refine G_irem h dX9_does_28 (by decide) rfl ?_
  obtain ⟨g1, hf⟩ := gd_some hf
  refine G_iald h dX9_does_29 ((w_8_24 hE h_v0).2) g1 (jx := (ix (((mi M v0 2) + v1) - ((mi M v0 2) + v1) / (24 : Int32) * (24 : Int32)))) rfl rfl ?_
  refine G_iand h dX9_does_30 rfl ?_
  refine G_iload_n h dX9_does_31 (i := 3) rfl rfl rfl ?_
  refine cl_X9_189 h (ok_X9_has hE _  (r := f_X9_has E M (v2 &&& (mi M (rr E v0 24) (ix (((mi M v0 2) + v1) - ((mi M v0 2) + v1) / (24 : Int32) * (24 : Int32))))) v3) rfl) dX9_does_32 (as := [.int (v2 &&& (mi M (rr E v0 24) (ix (((mi M v0 2) + v1) - ((mi M v0 2) + v1) / (24 : Int32) * (24 : Int32))))), .int v3]) rfl rfl ⟨rfl, rfl, Nat.le_of_ble_eq_true rfl, Nat.le_of_ble_eq_true rfl⟩ rfl (Nat.le_of_ble_eq_true rfl) (fun z2 => ?_)
  refine G_if_eq h dX9_does_35 (tgt := 55) (by decide) rfl (fun c3 => ?_) (fun c3 => ?_)
  · have hf := it_t c3 hf
    refine G_iinc2 h dX9_does_55 rfl ki_1 (by decide) (L' := [some (.ref v0), some (.int v1), some (.int v2), some (.int (v3 + 1))]) rfl rfl ?_
    refine G_goto h dX9_does_58 (tgt := 15) (by decide) ?_
    exact hk15 _ _ _ _ h_v0 hf
  · have hf := it_f c3 hf
    refine G_aload_n h dX9_does_38 (i := 0) rfl rfl rfl ?_
    refine G_iload_n h dX9_does_39 (i := 1) rfl rfl rfl ?_
    refine G_iconst h dX9_does_40 ki_1 rfl ?_
    refine G_iadd h dX9_does_41 rfl ?_
    refine G_iload_n h dX9_does_42 (i := 2) rfl rfl rfl ?_
    refine G_iconst h dX9_does_43 ki_1 rfl ?_
    refine G_iload_n h dX9_does_44 (i := 3) rfl rfl rfl ?_
    refine G_ishl h dX9_does_45 rfl ?_
    refine G_iconst h dX9_does_46 ki_m1 rfl ?_
    refine G_ixor h dX9_does_47 rfl ?_
    refine G_iand h dX9_does_48 rfl ?_
    obtain ⟨x5, hx5, hf⟩ := bd hf
    refine cl_X9_244 h (ok_X9_isMay hE _ h_v0 hx5) dX9_does_49 h_v0 (as := [.int (v1 + (1 : Int32)), .int (v2 &&& (((1 : Int32) <<< (v3 &&& 31)) ^^^ (-1 : Int32)))]) rfl rfl ⟨rfl, rfl, Nat.le_of_ble_eq_true rfl, Nat.le_of_ble_eq_true rfl⟩ rfl (Nat.le_of_ble_eq_true rfl) (fun z4 => ?_)
    refine G_if_ne h dX9_does_52 (tgt := 61) (by decide) rfl (fun c6 => ?_) (fun c6 => ?_)
    · have hf := it_f c6 hf
      refine G_iload_n h dX9_does_61 (i := 3) rfl rfl rfl ?_
      exact roI hR dX9_does_62 hf
    · have hf := it_t c6 hf
      refine G_iinc2 h dX9_does_55 rfl ki_1 (by decide) (L' := [some (.ref v0), some (.int v1), some (.int v2), some (.int (v3 + 1))]) rfl rfl ?_
      refine G_goto h dX9_does_58 (tgt := 15) (by decide) ?_
      exact hk15 _ _ _ _ h_v0 hf
def f_X9_does_L15 (E : Env1) (M : Mem) : Nat → Nat → Int32 → Int32 → Int32 → (Option (Int32))
  | 0 => fun _ _ _ _ => none
  | n + 1 => b_X9_does_L15 E M (f_X9_does_L15 E M n)
theorem o_X9_does_L15 {X : Ctx} {l0 : Launch} {E : Env1} (h : Cx X l0 E RX9 cX9_does (some .int) 4 rm_X9_does) (hE : WF E) {M : Mem} {r : Int32} (hR : RetI X E cX9_does r M) : ∀ (n : Nat) (v0 : Nat) (v1 : Int32) (v2 : Int32) (v3 : Int32), isK E v0 8 → f_X9_does_L15 E M n v0 v1 v2 v3 = some r → G X E (0, 0) 15 [some (.ref v0), some (.int v1), some (.int v2), some (.int v3)] [] M := by
  intro n
  induction n with
  | zero =>
    intro _ _ _ _ a0 hf
    have h0 : (none : Option (Int32)) = some r := hf
    cases h0
  | succ n ih =>
    intro _ _ _ _ a0 hf
    exact ob_X9_does_L15 h hE hR  ih a0 hf
def f_X9_does (E : Env1) (M : Mem) (v0 : Nat) (v1 : Int32) (v2 : Int32) : Option (Int32) :=
  (f_X9_isMay E M v0 (v1 + (1 : Int32)) v2).bind fun x2 =>
  if x2 = 0 then (f_X9_does_L15 E M FU v0 v1 v2 (0 : Int32))
  else (some (-1 : Int32))
set_option maxRecDepth 100000 in
set_option maxHeartbeats 4000000 in
theorem ok_X9_does {E : Env1} (hE : WF E) (l0 : Launch) {M : Mem} {v0 : Nat} {v1 : Int32} {v2 : Int32} {r : Int32} (h0 : isK E v0 8) (hf : f_X9_does E M v0 v1 v2 = some r) : Met l0 yX9_does (wsA yX9_does cX9_does 4 (some .int)) rm_X9_does (CP E M [.ref v0, .int v1, .int v2]) (CQi E r M) 0 0 (eA E) := by
  unfold f_X9_does at hf
  refine mtI l0 (by decide +kernel) (Nat.le_of_ble_eq_true rfl) (L0 := [some (.ref v0), some (.int v1), some (.int v2), none]) rfl (fun X h hR => ?_)
  refine G_aload_n h dX9_does_0 (i := 0) rfl rfl rfl ?_
  refine G_iload_n h dX9_does_1 (i := 1) rfl rfl rfl ?_
  refine G_iconst h dX9_does_2 ki_1 rfl ?_
  refine G_iadd h dX9_does_3 rfl ?_
  refine G_iload_n h dX9_does_4 (i := 2) rfl rfl rfl ?_
  obtain ⟨x2, hx2, hf⟩ := bd hf
  refine cl_X9_244 h (ok_X9_isMay hE _ h0 hx2) dX9_does_5 h0 (as := [.int (v1 + (1 : Int32)), .int v2]) rfl rfl ⟨rfl, rfl, Nat.le_of_ble_eq_true rfl, Nat.le_of_ble_eq_true rfl⟩ rfl (Nat.le_of_ble_eq_true rfl) (fun z1 => ?_)
  refine G_if_eq h dX9_does_8 (tgt := 13) (by decide) rfl (fun c3 => ?_) (fun c3 => ?_)
  · have hf := it_t c3 hf
    refine G_iconst h dX9_does_13 ki_0 rfl ?_
    refine G_istore_n h dX9_does_14 (i := 3) rfl (by decide) (L' := [some (.ref v0), some (.int v1), some (.int v2), some (.int (0 : Int32))]) rfl rfl ?_
    exact o_X9_does_L15 h hE hR  FU _ _ _ _ h0 hf
  · have hf := it_f c3 hf
    refine G_iconst h dX9_does_11 ki_m1 rfl ?_
    exact roI hR dX9_does_12 hf
def rm_X9_here : Room := { frames := 0, cells := 0, slots := 0, locals := 0 }
def f_X9_here (E : Env1) (M : Mem) (v0 : Nat) : Option (Int32) :=
  if (mi M v0 16) ≤ (mi M v0 17) then (some (-1 : Int32))
  else (gd (mi M v0 17) 150 (some (mi M (rr E v0 15) (ix (mi M v0 17)))))
set_option maxRecDepth 100000 in
set_option maxHeartbeats 4000000 in
theorem ok_X9_here {E : Env1} (hE : WF E) (l0 : Launch) {M : Mem} {v0 : Nat} {r : Int32} (h0 : isK E v0 8) (hf : f_X9_here E M v0 = some r) : Met l0 yX9_here (wsA yX9_here cX9_here 1 (some .int)) rm_X9_here (CP E M [.ref v0]) (CQi E r M) 0 0 (eA E) := by
  unfold f_X9_here at hf
  refine mtI l0 (by decide +kernel) (Nat.le_of_ble_eq_true rfl) (L0 := [some (.ref v0)]) rfl (fun X h hR => ?_)
  refine G_aload_n h dX9_here_0 (i := 0) rfl rfl rfl ?_
  refine gf_X9_109 h dX9_here_1 h0 rfl ?_
  refine G_aload_n h dX9_here_4 (i := 0) rfl rfl rfl ?_
  refine gf_X9_106 h dX9_here_5 h0 rfl ?_
  refine G_icmp_ge h dX9_here_8 (tgt := 23) (by decide) rfl (fun c1 => ?_) (fun c1 => ?_)
  · have hf := it_t c1 hf
    refine G_iconst h dX9_here_23 ki_m1 rfl ?_
    exact roI hR dX9_here_24 hf
  · have hf := it_f c1 hf
    refine G_aload_n h dX9_here_11 (i := 0) rfl rfl rfl ?_
    refine gf_X9_37 h hE dX9_here_12 h0 rfl ?_
    refine G_aload_n h dX9_here_15 (i := 0) rfl rfl rfl ?_
    refine gf_X9_109 h dX9_here_16 h0 rfl ?_
    obtain ⟨g2, hf⟩ := gd_some hf
    refine G_iald h dX9_here_19 ((w_8_15 hE h0).2) g2 (jx := (ix (mi M v0 17))) rfl rfl ?_
    refine G_goto h dX9_here_20 (tgt := 24) (by decide) ?_
    exact roI hR dX9_here_24 hf
def rm_X9_skip : Room := { frames := 1, cells := 0, slots := 0, locals := 20 }
def b_X9_skip_L0 (E : Env1) (k0 : Mem → Nat → (Option (Mem))) (M : Mem) (v0 : Nat) : Option (Mem) :=
  (f_X9_here E M v0).bind fun x1 =>
  if x1 = (32 : Int32) then (k0 (wi M v0 17 ((mi M v0 17) + (1 : Int32))) v0)
  else (some M)
set_option maxRecDepth 100000 in
set_option maxHeartbeats 4000000 in
theorem ob_X9_skip_L0 {X : Ctx} {l0 : Launch} {E : Env1} (h : Cx X l0 E RX9 cX9_skip none 1 rm_X9_skip) (hE : WF E) {M' : Mem} (hR : RetV X E cX9_skip M') {k0 : Mem → Nat → (Option (Mem))} (hk0 : ∀ (M : Mem) (v0 : Nat), isK E v0 8 → k0 M v0 = some (M') → G X E (0, 0) 0 [some (.ref v0)] [] M) {M : Mem} {v0 : Nat} (h_v0 : isK E v0 8) (hf : b_X9_skip_L0 E k0 M v0 = some (M')) : G X E (0, 0) 0 [some (.ref v0)] [] M := by
  unfold b_X9_skip_L0 at hf
  refine G_aload_n h dX9_skip_0 (i := 0) rfl rfl rfl ?_
  obtain ⟨x1, hx1, hf⟩ := bd hf
  refine cl_X9_112 h (ok_X9_here hE _ h_v0 hx1) dX9_skip_1 h_v0 (as := []) rfl rfl ⟨rfl, rfl, Nat.le_of_ble_eq_true rfl, Nat.le_of_ble_eq_true rfl⟩ rfl (Nat.le_of_ble_eq_true rfl) ?_
  refine G_bipush h dX9_skip_4 kb_32 rfl ?_
  refine G_icmp_ne h dX9_skip_6 (tgt := 22) (by decide) rfl (fun c2 => ?_) (fun c2 => ?_)
  · have hf := it_f c2 hf
    exact pwV hR dX9_skip_22 hf
  · have hf := it_t c2 hf
    refine G_aload_n h dX9_skip_9 (i := 0) rfl rfl rfl ?_
    refine G_dup h dX9_skip_10 rfl rfl ?_
    refine gf_X9_109 h dX9_skip_11 h_v0 rfl ?_
    refine G_iconst h dX9_skip_14 ki_1 rfl ?_
    refine G_iadd h dX9_skip_15 rfl ?_
    refine pf_X9_109 h dX9_skip_16 h_v0 rfl ?_
    refine G_goto h dX9_skip_19 (tgt := 0) (by decide) ?_
    exact hk0 _ _ h_v0 hf
def f_X9_skip_L0 (E : Env1) : Nat → Mem → Nat → (Option (Mem))
  | 0 => fun _ _ => none
  | n + 1 => b_X9_skip_L0 E (f_X9_skip_L0 E n)
theorem o_X9_skip_L0 {X : Ctx} {l0 : Launch} {E : Env1} (h : Cx X l0 E RX9 cX9_skip none 1 rm_X9_skip) (hE : WF E) {M' : Mem} (hR : RetV X E cX9_skip M') : ∀ (n : Nat) (M : Mem) (v0 : Nat), isK E v0 8 → f_X9_skip_L0 E n M v0 = some (M') → G X E (0, 0) 0 [some (.ref v0)] [] M := by
  intro n
  induction n with
  | zero =>
    intro _ _ a0 hf
    have h0 : (none : Option (Mem)) = some (M') := hf
    cases h0
  | succ n ih =>
    intro _ _ a0 hf
    exact ob_X9_skip_L0 h hE hR  ih a0 hf
def f_X9_skip (E : Env1) (M : Mem) (v0 : Nat) : Option (Mem) :=
  f_X9_skip_L0 E FU M v0
set_option maxRecDepth 100000 in
set_option maxHeartbeats 4000000 in
theorem ok_X9_skip {E : Env1} (hE : WF E) (l0 : Launch) {M : Mem} {M' : Mem} {v0 : Nat} (h0 : isK E v0 8) (hf : f_X9_skip E M v0 = some (M')) : Met l0 yX9_skip (wsA yX9_skip cX9_skip 1 none) rm_X9_skip (CP E M [.ref v0]) (CQv E M') 0 0 (eA E) := by
  unfold f_X9_skip at hf
  refine mtV l0 (by decide +kernel) (Nat.le_of_ble_eq_true rfl) (L0 := [some (.ref v0)]) rfl (fun X h hR => ?_)
  exact o_X9_skip_L0 h hE hR  FU _ _ h0 hf
def rm_X9_ends : Room := { frames := 2, cells := 0, slots := 0, locals := 40 }
def f_X9_ends (E : Env1) (M : Mem) (v0 : Nat) : Option (Int32 × Mem) :=
  (f_X9_skip E M v0).bind fun x1 =>
  (f_X9_here E x1 v0).bind fun x2 =>
  if x2 = (59 : Int32) then (some ((1 : Int32), wi x1 v0 17 ((mi x1 v0 17) + (1 : Int32))))
  else (some ((0 : Int32), x1))
set_option maxRecDepth 100000 in
set_option maxHeartbeats 4000000 in
theorem ok_X9_ends {E : Env1} (hE : WF E) (l0 : Launch) {M : Mem} {M' : Mem} {v0 : Nat} {r : Int32} (h0 : isK E v0 8) (hf : f_X9_ends E M v0 = some (r, M')) : Met l0 yX9_ends (wsA yX9_ends cX9_ends 1 (some .boolean)) rm_X9_ends (CP E M [.ref v0]) (CQz E r M') 0 0 (eA E) := by
  unfold f_X9_ends at hf
  refine mtZ l0 (by decide +kernel) (Nat.le_of_ble_eq_true rfl) (L0 := [some (.ref v0)]) rfl (fun X h hR => ?_)
  refine G_aload_n h dX9_ends_0 (i := 0) rfl rfl rfl ?_
  obtain ⟨x1, hx1, hf⟩ := bd hf
  refine cl_X9_126 h (ok_X9_skip hE _ h0 hx1) dX9_ends_1 h0 (as := []) rfl rfl ⟨rfl, rfl, Nat.le_of_ble_eq_true rfl, Nat.le_of_ble_eq_true rfl⟩ rfl (Nat.le_of_ble_eq_true rfl) ?_
  refine G_aload_n h dX9_ends_4 (i := 0) rfl rfl rfl ?_
  obtain ⟨x2, hx2, hf⟩ := bd hf
  refine cl_X9_112 h (ok_X9_here hE _ h0 hx2) dX9_ends_5 h0 (as := []) rfl rfl ⟨rfl, rfl, Nat.le_of_ble_eq_true rfl, Nat.le_of_ble_eq_true rfl⟩ rfl (Nat.le_of_ble_eq_true rfl) ?_
  refine G_bipush h dX9_ends_8 kb_59 rfl ?_
  refine G_icmp_eq h dX9_ends_10 (tgt := 15) (by decide) rfl (fun c3 => ?_) (fun c3 => ?_)
  · have hf := it_t c3 hf
    refine G_aload_n h dX9_ends_15 (i := 0) rfl rfl rfl ?_
    refine G_dup h dX9_ends_16 rfl rfl ?_
    refine gf_X9_109 h dX9_ends_17 h0 rfl ?_
    refine G_iconst h dX9_ends_20 ki_1 rfl ?_
    refine G_iadd h dX9_ends_21 rfl ?_
    refine pf_X9_109 h dX9_ends_22 h0 rfl ?_
    refine G_iconst h dX9_ends_25 ki_1 rfl ?_
    exact pwZ hR dX9_ends_26 (Or.inr rfl) hf
  · have hf := it_f c3 hf
    refine G_iconst h dX9_ends_13 ki_0 rfl ?_
    exact pwZ hR dX9_ends_14 (Or.inl rfl) hf
def rm_X9_learns : Room := { frames := 4, cells := 0, slots := 0, locals := 92 }
def f_X9_learns (E : Env1) (M : Mem) (v0 : Nat) (v1 : Int32) (v2 : Int32) : Option (Mem) :=
  gd v1 6 ((f_X9_mayMeet E M v0 v1 v2 (f_X9_dayMinute E M v0)).bind fun x3 =>
  nm (wi M (rr E v0 10) (ix v1) ((mi M (rr E v0 10) (ix v1)) ||| (if x3 = 0 then (0 : Int32) else (1 : Int32) <<< (v2 &&& 31)))) fun M5 =>
  some M5)
set_option maxRecDepth 100000 in
set_option maxHeartbeats 4000000 in
theorem ok_X9_learns {E : Env1} (hE : WF E) (l0 : Launch) {M : Mem} {M' : Mem} {v0 : Nat} {v1 : Int32} {v2 : Int32} (h0 : isK E v0 8) (hf : f_X9_learns E M v0 v1 v2 = some (M')) : Met l0 yX9_learns (wsA yX9_learns cX9_learns 3 none) rm_X9_learns (CP E M [.ref v0, .int v1, .int v2]) (CQv E M') 0 0 (eA E) := by
  unfold f_X9_learns at hf
  refine mtV l0 (by decide +kernel) (Nat.le_of_ble_eq_true rfl) (L0 := [some (.ref v0), some (.int v1), some (.int v2)]) rfl (fun X h hR => ?_)
  refine G_aload_n h dX9_learns_0 (i := 0) rfl rfl rfl ?_
  refine gf_X9_22 h hE dX9_learns_1 h0 rfl ?_
  refine G_iload_n h dX9_learns_4 (i := 1) rfl rfl rfl ?_
  refine G_dup2 h dX9_learns_5 rfl rfl rfl ?_
  obtain ⟨g1, hf⟩ := gd_some hf
  refine G_iald h dX9_learns_6 ((w_8_10 hE h0).2) g1 (jx := (ix v1)) rfl rfl ?_
  refine G_aload_n h dX9_learns_7 (i := 0) rfl rfl rfl ?_
  refine G_iload_n h dX9_learns_8 (i := 1) rfl rfl rfl ?_
  refine G_iload_n h dX9_learns_9 (i := 2) rfl rfl rfl ?_
  refine G_aload_n h dX9_learns_10 (i := 0) rfl rfl rfl ?_
  refine cl_X9_210 h (ok_X9_dayMinute hE _ h0 (r := f_X9_dayMinute E M v0) rfl) dX9_learns_11 h0 (as := []) rfl rfl ⟨rfl, rfl, Nat.le_of_ble_eq_true rfl, Nat.le_of_ble_eq_true rfl⟩ rfl (Nat.le_of_ble_eq_true rfl) ?_
  obtain ⟨x3, hx3, hf⟩ := bd hf
  refine cl_X9_213 h (ok_X9_mayMeet hE _ h0 hx3) dX9_learns_14 h0 (as := [.int v1, .int v2, .int (f_X9_dayMinute E M v0)]) rfl rfl ⟨rfl, rfl, Nat.le_of_ble_eq_true rfl, Nat.le_of_ble_eq_true rfl⟩ rfl (Nat.le_of_ble_eq_true rfl) (fun z2 => ?_)
  have hJ : G X E (0, 0) 27 [some (.ref v0), some (.int v1), some (.int v2)] [.int (if x3 = 0 then (0 : Int32) else (1 : Int32) <<< (v2 &&& 31)), .int (mi M (rr E v0 10) (ix v1)), .int v1, .ref (rr E v0 10)] M := by
    refine G_ior h dX9_learns_27 rfl ?_
    refine G_iast h dX9_learns_28 ((w_8_10 hE h0).2) g1 (jx := (ix v1)) rfl rfl ?_
    refine G_nmM (fun M5 hM5 => ?_)
    have hf := nm_eq hM5 hf
    exact pwV hR dX9_learns_29 hf
  refine G_if_eq h dX9_learns_17 (tgt := 26) (by decide) rfl (fun c4 => ?_) (fun c4 => ?_)
  · refine G_iconst h dX9_learns_26 ki_0 rfl ?_
    exact G_ifp c4 hJ
  · refine G_iconst h dX9_learns_20 ki_1 rfl ?_
    refine G_iload_n h dX9_learns_21 (i := 2) rfl rfl rfl ?_
    refine G_ishl h dX9_learns_22 rfl ?_
    refine G_goto h dX9_learns_23 (tgt := 27) (by decide) ?_
    exact G_ifn c4 hJ
def rm_X9_passes : Room := { frames := 1, cells := 0, slots := 0, locals := 21 }
def b_X9_passes_L60 (E : Env1) (k60 : Mem → Nat → Int32 → Int32 → (Option (Mem))) (M : Mem) (v0 : Nat) (v1 : Int32) (v2 : Int32) : Option (Mem) :=
  if (mi M v0 1) ≤ v2 then (some (wi M v0 2 ((mi M v0 2) + (1 : Int32))))
  else (
    gd v2 6 (nm (wi M (rr E v0 10) (ix v2) ((mi M (rr E v0 10) (ix v2)) ||| (((mi M (rr E v0 10) (ix v2)) <<< ((1 : Int32) &&& 31)) &&& v1))) fun M3 =>
    k60 M3 v0 v1 (v2 + 1)))
set_option maxRecDepth 100000 in
set_option maxHeartbeats 4000000 in
theorem ob_X9_passes_L60 {X : Ctx} {l0 : Launch} {E : Env1} (h : Cx X l0 E RX9 cX9_passes none 3 rm_X9_passes) (hE : WF E) {M' : Mem} (hR : RetV X E cX9_passes M') {k60 : Mem → Nat → Int32 → Int32 → (Option (Mem))} (hk60 : ∀ (M : Mem) (v0 : Nat) (v1 : Int32) (v2 : Int32), isK E v0 8 → k60 M v0 v1 v2 = some (M') → G X E (0, 0) 60 [some (.ref v0), some (.int v1), some (.int v2)] [] M) {M : Mem} {v0 : Nat} {v1 : Int32} {v2 : Int32} (h_v0 : isK E v0 8) (hf : b_X9_passes_L60 E k60 M v0 v1 v2 = some (M')) : G X E (0, 0) 60 [some (.ref v0), some (.int v1), some (.int v2)] [] M := by
  unfold b_X9_passes_L60 at hf
  refine G_iload_n h dX9_passes_60 (i := 2) rfl rfl rfl ?_
  refine G_aload_n h dX9_passes_61 (i := 0) rfl rfl rfl ?_
  refine gf_X9_69 h dX9_passes_62 h_v0 rfl ?_
  refine G_icmp_ge h dX9_passes_65 (tgt := 93) (by decide) rfl (fun c1 => ?_) (fun c1 => ?_)
  · have hf := it_t c1 hf
    refine G_aload_n h dX9_passes_93 (i := 0) rfl rfl rfl ?_
    refine G_dup h dX9_passes_94 rfl rfl ?_
    refine gf_X9_73 h dX9_passes_95 h_v0 rfl ?_
    refine G_iconst h dX9_passes_98 ki_1 rfl ?_
    refine G_iadd h dX9_passes_99 rfl ?_
    refine pf_X9_73 h dX9_passes_100 h_v0 rfl ?_
    exact pwV hR dX9_passes_103 hf
  · have hf := it_f c1 hf
    refine G_aload_n h dX9_passes_68 (i := 0) rfl rfl rfl ?_
    refine gf_X9_22 h hE dX9_passes_69 h_v0 rfl ?_
    refine G_iload_n h dX9_passes_72 (i := 2) rfl rfl rfl ?_
    refine G_dup2 h dX9_passes_73 rfl rfl rfl ?_
    obtain ⟨g2, hf⟩ := gd_some hf
    refine G_iald h dX9_passes_74 ((w_8_10 hE h_v0).2) g2 (jx := (ix v2)) rfl rfl ?_
    refine G_aload_n h dX9_passes_75 (i := 0) rfl rfl rfl ?_
    refine gf_X9_22 h hE dX9_passes_76 h_v0 rfl ?_
    refine G_iload_n h dX9_passes_79 (i := 2) rfl rfl rfl ?_
    refine G_iald h dX9_passes_80 ((w_8_10 hE h_v0).2) g2 (jx := (ix v2)) rfl rfl ?_
    refine G_iconst h dX9_passes_81 ki_1 rfl ?_
    refine G_ishl h dX9_passes_82 rfl ?_
    refine G_iload_n h dX9_passes_83 (i := 1) rfl rfl rfl ?_
    refine G_iand h dX9_passes_84 rfl ?_
    refine G_ior h dX9_passes_85 rfl ?_
    refine G_iast h dX9_passes_86 ((w_8_10 hE h_v0).2) g2 (jx := (ix v2)) rfl rfl ?_
    refine G_nmM (fun M3 hM3 => ?_)
    have hf := nm_eq hM3 hf
    refine G_iinc2 h dX9_passes_87 rfl ki_1 (by decide) (L' := [some (.ref v0), some (.int v1), some (.int (v2 + 1))]) rfl rfl ?_
    refine G_goto h dX9_passes_90 (tgt := 60) (by decide) ?_
    exact hk60 _ _ _ _ h_v0 hf
def f_X9_passes_L60 (E : Env1) : Nat → Mem → Nat → Int32 → Int32 → (Option (Mem))
  | 0 => fun _ _ _ _ => none
  | n + 1 => b_X9_passes_L60 E (f_X9_passes_L60 E n)
theorem o_X9_passes_L60 {X : Ctx} {l0 : Launch} {E : Env1} (h : Cx X l0 E RX9 cX9_passes none 3 rm_X9_passes) (hE : WF E) {M' : Mem} (hR : RetV X E cX9_passes M') : ∀ (n : Nat) (M : Mem) (v0 : Nat) (v1 : Int32) (v2 : Int32), isK E v0 8 → f_X9_passes_L60 E n M v0 v1 v2 = some (M') → G X E (0, 0) 60 [some (.ref v0), some (.int v1), some (.int v2)] [] M := by
  intro n
  induction n with
  | zero =>
    intro _ _ _ _ a0 hf
    have h0 : (none : Option (Mem)) = some (M') := hf
    cases h0
  | succ n ih =>
    intro _ _ _ _ a0 hf
    exact ob_X9_passes_L60 h hE hR  ih a0 hf
def b_X9_passes_L4 (E : Env1) (k4 : Mem → Nat → Int32 → Int32 → (Option (Mem))) (M : Mem) (v0 : Nat) (v1 : Int32) (v2 : Int32) : Option (Mem) :=
  if (8 : Int32) ≤ v2 then (f_X9_passes_L60 E FU M v0 v1 (0 : Int32))
  else (
    if (f_X9_has E M (mi M v0 3) (v2 - (1 : Int32))) = 0 then (k4 M v0 (v1 ||| (0 : Int32)) (v2 + 1))
    else (
      gd v2 8 (if (mi M (rr E v0 11) (ix v2)) = 0 then (
        nm (v1 ||| ((1 : Int32) <<< (v2 &&& 31))) fun x6 =>
        k4 M v0 x6 (v2 + 1))
      else (
        if (mi M (rr E v0 11) (ix v2)) = (4 : Int32) then (
          nm (v1 ||| ((1 : Int32) <<< (v2 &&& 31))) fun x8 =>
          k4 M v0 x8 (v2 + 1))
        else (k4 M v0 (v1 ||| (0 : Int32)) (v2 + 1))))))
set_option maxRecDepth 100000 in
set_option maxHeartbeats 4000000 in
theorem ob_X9_passes_L4 {X : Ctx} {l0 : Launch} {E : Env1} (h : Cx X l0 E RX9 cX9_passes none 3 rm_X9_passes) (hE : WF E) {M' : Mem} (hR : RetV X E cX9_passes M') {k4 : Mem → Nat → Int32 → Int32 → (Option (Mem))} (hk4 : ∀ (M : Mem) (v0 : Nat) (v1 : Int32) (v2 : Int32), isK E v0 8 → k4 M v0 v1 v2 = some (M') → G X E (0, 0) 4 [some (.ref v0), some (.int v1), some (.int v2)] [] M) {M : Mem} {v0 : Nat} {v1 : Int32} {v2 : Int32} (h_v0 : isK E v0 8) (hf : b_X9_passes_L4 E k4 M v0 v1 v2 = some (M')) : G X E (0, 0) 4 [some (.ref v0), some (.int v1), some (.int v2)] [] M := by
  unfold b_X9_passes_L4 at hf
  refine G_iload_n h dX9_passes_4 (i := 2) rfl rfl rfl ?_
  refine G_bipush h dX9_passes_5 kb_8 rfl ?_
  refine G_icmp_ge h dX9_passes_7 (tgt := 58) (by decide) rfl (fun c1 => ?_) (fun c1 => ?_)
  · have hf := it_t c1 hf
    refine G_iconst h dX9_passes_58 ki_0 rfl ?_
    refine G_istore_n h dX9_passes_59 (i := 2) rfl (by decide) (L' := [some (.ref v0), some (.int v1), some (.int (0 : Int32))]) rfl rfl ?_
    exact o_X9_passes_L60 h hE hR  FU _ _ _ _ h_v0 hf
  · have hf := it_f c1 hf
    refine G_iload_n h dX9_passes_10 (i := 1) rfl rfl rfl ?_
    refine G_aload_n h dX9_passes_11 (i := 0) rfl rfl rfl ?_
    refine gf_X9_76 h dX9_passes_12 h_v0 rfl ?_
    refine G_iload_n h dX9_passes_15 (i := 2) rfl rfl rfl ?_
    refine G_iconst h dX9_passes_16 ki_1 rfl ?_
    refine G_isub h dX9_passes_17 rfl ?_
    refine cl_X9_189 h (ok_X9_has hE _  (r := f_X9_has E M (mi M v0 3) (v2 - (1 : Int32))) rfl) dX9_passes_18 (as := [.int (mi M v0 3), .int (v2 - (1 : Int32))]) rfl rfl ⟨rfl, rfl, Nat.le_of_ble_eq_true rfl, Nat.le_of_ble_eq_true rfl⟩ rfl (Nat.le_of_ble_eq_true rfl) (fun z2 => ?_)
    refine G_if_eq h dX9_passes_21 (tgt := 49) (by decide) rfl (fun c3 => ?_) (fun c3 => ?_)
    · have hf := it_t c3 hf
      refine G_iconst h dX9_passes_49 ki_0 rfl ?_
      refine G_ior h dX9_passes_50 rfl ?_
      refine G_istore_n h dX9_passes_51 (i := 1) rfl (by decide) (L' := [some (.ref v0), some (.int (v1 ||| (0 : Int32))), some (.int v2)]) rfl rfl ?_
      refine G_iinc2 h dX9_passes_52 rfl ki_1 (by decide) (L' := [some (.ref v0), some (.int (v1 ||| (0 : Int32))), some (.int (v2 + 1))]) rfl rfl ?_
      refine G_goto h dX9_passes_55 (tgt := 4) (by decide) ?_
      exact hk4 _ _ _ _ h_v0 hf
    · have hf := it_f c3 hf
      refine G_aload_n h dX9_passes_24 (i := 0) rfl rfl rfl ?_
      refine gf_X9_25 h hE dX9_passes_25 h_v0 rfl ?_
      refine G_iload_n h dX9_passes_28 (i := 2) rfl rfl rfl ?_
      obtain ⟨g4, hf⟩ := gd_some hf
      refine G_iald h dX9_passes_29 ((w_8_11 hE h_v0).2) g4 (jx := (ix v2)) rfl rfl ?_
      refine G_if_eq h dX9_passes_30 (tgt := 43) (by decide) rfl (fun c5 => ?_) (fun c5 => ?_)
      · have hf := it_t c5 hf
        refine G_iconst h dX9_passes_43 ki_1 rfl ?_
        refine G_iload_n h dX9_passes_44 (i := 2) rfl rfl rfl ?_
        refine G_ishl h dX9_passes_45 rfl ?_
        refine G_goto h dX9_passes_46 (tgt := 50) (by decide) ?_
        refine G_ior h dX9_passes_50 rfl ?_
        refine G_nmi (fun x6 hx6 => ?_)
        have hf := nm_eq hx6 hf
        refine G_istore_n h dX9_passes_51 (i := 1) rfl (by decide) (L' := [some (.ref v0), some (.int x6), some (.int v2)]) rfl rfl ?_
        refine G_iinc2 h dX9_passes_52 rfl ki_1 (by decide) (L' := [some (.ref v0), some (.int x6), some (.int (v2 + 1))]) rfl rfl ?_
        refine G_goto h dX9_passes_55 (tgt := 4) (by decide) ?_
        exact hk4 _ _ _ _ h_v0 hf
      · have hf := it_f c5 hf
        refine G_aload_n h dX9_passes_33 (i := 0) rfl rfl rfl ?_
        refine gf_X9_25 h hE dX9_passes_34 h_v0 rfl ?_
        refine G_iload_n h dX9_passes_37 (i := 2) rfl rfl rfl ?_
        refine G_iald h dX9_passes_38 ((w_8_11 hE h_v0).2) g4 (jx := (ix v2)) rfl rfl ?_
        refine G_iconst h dX9_passes_39 ki_4 rfl ?_
        refine G_icmp_ne h dX9_passes_40 (tgt := 49) (by decide) rfl (fun c7 => ?_) (fun c7 => ?_)
        · have hf := it_f c7 hf
          refine G_iconst h dX9_passes_49 ki_0 rfl ?_
          refine G_ior h dX9_passes_50 rfl ?_
          refine G_istore_n h dX9_passes_51 (i := 1) rfl (by decide) (L' := [some (.ref v0), some (.int (v1 ||| (0 : Int32))), some (.int v2)]) rfl rfl ?_
          refine G_iinc2 h dX9_passes_52 rfl ki_1 (by decide) (L' := [some (.ref v0), some (.int (v1 ||| (0 : Int32))), some (.int (v2 + 1))]) rfl rfl ?_
          refine G_goto h dX9_passes_55 (tgt := 4) (by decide) ?_
          exact hk4 _ _ _ _ h_v0 hf
        · have hf := it_t c7 hf
          refine G_iconst h dX9_passes_43 ki_1 rfl ?_
          refine G_iload_n h dX9_passes_44 (i := 2) rfl rfl rfl ?_
          refine G_ishl h dX9_passes_45 rfl ?_
          refine G_goto h dX9_passes_46 (tgt := 50) (by decide) ?_
          refine G_ior h dX9_passes_50 rfl ?_
          refine G_nmi (fun x8 hx8 => ?_)
          have hf := nm_eq hx8 hf
          refine G_istore_n h dX9_passes_51 (i := 1) rfl (by decide) (L' := [some (.ref v0), some (.int x8), some (.int v2)]) rfl rfl ?_
          refine G_iinc2 h dX9_passes_52 rfl ki_1 (by decide) (L' := [some (.ref v0), some (.int x8), some (.int (v2 + 1))]) rfl rfl ?_
          refine G_goto h dX9_passes_55 (tgt := 4) (by decide) ?_
          exact hk4 _ _ _ _ h_v0 hf
def f_X9_passes_L4 (E : Env1) : Nat → Mem → Nat → Int32 → Int32 → (Option (Mem))
  | 0 => fun _ _ _ _ => none
  | n + 1 => b_X9_passes_L4 E (f_X9_passes_L4 E n)
theorem o_X9_passes_L4 {X : Ctx} {l0 : Launch} {E : Env1} (h : Cx X l0 E RX9 cX9_passes none 3 rm_X9_passes) (hE : WF E) {M' : Mem} (hR : RetV X E cX9_passes M') : ∀ (n : Nat) (M : Mem) (v0 : Nat) (v1 : Int32) (v2 : Int32), isK E v0 8 → f_X9_passes_L4 E n M v0 v1 v2 = some (M') → G X E (0, 0) 4 [some (.ref v0), some (.int v1), some (.int v2)] [] M := by
  intro n
  induction n with
  | zero =>
    intro _ _ _ _ a0 hf
    have h0 : (none : Option (Mem)) = some (M') := hf
    cases h0
  | succ n ih =>
    intro _ _ _ _ a0 hf
    exact ob_X9_passes_L4 h hE hR  ih a0 hf
def f_X9_passes (E : Env1) (M : Mem) (v0 : Nat) : Option (Mem) :=
  f_X9_passes_L4 E FU M v0 (0 : Int32) (1 : Int32)
set_option maxRecDepth 100000 in
set_option maxHeartbeats 4000000 in
theorem ok_X9_passes {E : Env1} (hE : WF E) (l0 : Launch) {M : Mem} {M' : Mem} {v0 : Nat} (h0 : isK E v0 8) (hf : f_X9_passes E M v0 = some (M')) : Met l0 yX9_passes (wsA yX9_passes cX9_passes 3 none) rm_X9_passes (CP E M [.ref v0]) (CQv E M') 0 0 (eA E) := by
  unfold f_X9_passes at hf
  refine mtV l0 (by decide +kernel) (Nat.le_of_ble_eq_true rfl) (L0 := [some (.ref v0), none, none]) rfl (fun X h hR => ?_)
  refine G_iconst h dX9_passes_0 ki_0 rfl ?_
  refine G_istore_n h dX9_passes_1 (i := 1) rfl (by decide) (L' := [some (.ref v0), some (.int (0 : Int32)), none]) rfl rfl ?_
  refine G_iconst h dX9_passes_2 ki_1 rfl ?_
  refine G_istore_n h dX9_passes_3 (i := 2) rfl (by decide) (L' := [some (.ref v0), some (.int (0 : Int32)), some (.int (1 : Int32))]) rfl rfl ?_
  exact o_X9_passes_L4 h hE hR  FU _ _ _ _ h0 hf
def rm_X9_takes : Room := { frames := 0, cells := 0, slots := 0, locals := 0 }
def b_X9_takes_L59 (E : Env1) (n1 : Nat) (k59 : Mem → Nat → Nat → Int32 → Int32 → (Option (Mem))) (M : Mem) (v0 : Nat) (v1 : Nat) (v2 : Int32) (v3 : Int32) : Option (Mem) :=
  if (8 : Int32) ≤ v3 then (some M)
  else (gd ((v2 + (14 : Int32)) + v3) n1 (gd v3 8 (k59 (wi M (rr E v0 11) (ix v3) (mi M v1 (ix ((v2 + (14 : Int32)) + v3)))) v0 v1 v2 (v3 + 1))))
set_option maxRecDepth 100000 in
set_option maxHeartbeats 4000000 in
theorem ob_X9_takes_L59 {X : Ctx} {l0 : Launch} {E : Env1} (h : Cx X l0 E RX9 cX9_takes none 4 rm_X9_takes) (hE : WF E) {M' : Mem} {n1 : Nat} (hR : RetV X E cX9_takes M') {k59 : Mem → Nat → Nat → Int32 → Int32 → (Option (Mem))} (hk59 : ∀ (M : Mem) (v0 : Nat) (v1 : Nat) (v2 : Int32) (v3 : Int32), isK E v0 8 → isA E v1 9 n1 → k59 M v0 v1 v2 v3 = some (M') → G X E (0, 0) 59 [some (.ref v0), some (.ref v1), some (.int v2), some (.int v3)] [] M) {M : Mem} {v0 : Nat} {v1 : Nat} {v2 : Int32} {v3 : Int32} (h_v0 : isK E v0 8) (h_v1 : isA E v1 9 n1) (hf : b_X9_takes_L59 E n1 k59 M v0 v1 v2 v3 = some (M')) : G X E (0, 0) 59 [some (.ref v0), some (.ref v1), some (.int v2), some (.int v3)] [] M := by
  unfold b_X9_takes_L59 at hf
  refine G_iload_n h dX9_takes_59 (i := 3) rfl rfl rfl ?_
  refine G_bipush h dX9_takes_60 kb_8 rfl ?_
  refine G_icmp_ge h dX9_takes_62 (tgt := 85) (by decide) rfl (fun c1 => ?_) (fun c1 => ?_)
  · have hf := it_t c1 hf
    exact pwV hR dX9_takes_85 hf
  · have hf := it_f c1 hf
    refine G_aload_n h dX9_takes_65 (i := 0) rfl rfl rfl ?_
    refine gf_X9_25 h hE dX9_takes_66 h_v0 rfl ?_
    refine G_iload_n h dX9_takes_69 (i := 3) rfl rfl rfl ?_
    refine G_aload_n h dX9_takes_70 (i := 1) rfl rfl rfl ?_
    refine G_iload_n h dX9_takes_71 (i := 2) rfl rfl rfl ?_
    refine G_bipush h dX9_takes_72 kb_14 rfl ?_
    refine G_iadd h dX9_takes_74 rfl ?_
    refine G_iload_n h dX9_takes_75 (i := 3) rfl rfl rfl ?_
    refine G_iadd h dX9_takes_76 rfl ?_
    obtain ⟨g2, hf⟩ := gd_some hf
    refine G_iald h dX9_takes_77 h_v1 g2 (jx := (ix ((v2 + (14 : Int32)) + v3))) rfl rfl ?_
    obtain ⟨g3, hf⟩ := gd_some hf
    refine G_iast h dX9_takes_78 ((w_8_11 hE h_v0).2) g3 (jx := (ix v3)) rfl rfl ?_
    refine G_iinc2 h dX9_takes_79 rfl ki_1 (by decide) (L' := [some (.ref v0), some (.ref v1), some (.int v2), some (.int (v3 + 1))]) rfl rfl ?_
    refine G_goto h dX9_takes_82 (tgt := 59) (by decide) ?_
    exact hk59 _ _ _ _ _ h_v0 h_v1 hf
def f_X9_takes_L59 (E : Env1) (n1 : Nat) : Nat → Mem → Nat → Nat → Int32 → Int32 → (Option (Mem))
  | 0 => fun _ _ _ _ _ => none
  | n + 1 => b_X9_takes_L59 E n1 (f_X9_takes_L59 E n1 n)
theorem o_X9_takes_L59 {X : Ctx} {l0 : Launch} {E : Env1} (h : Cx X l0 E RX9 cX9_takes none 4 rm_X9_takes) (hE : WF E) {M' : Mem} {n1 : Nat} (hR : RetV X E cX9_takes M') : ∀ (n : Nat) (M : Mem) (v0 : Nat) (v1 : Nat) (v2 : Int32) (v3 : Int32), isK E v0 8 → isA E v1 9 n1 → f_X9_takes_L59 E n1 n M v0 v1 v2 v3 = some (M') → G X E (0, 0) 59 [some (.ref v0), some (.ref v1), some (.int v2), some (.int v3)] [] M := by
  intro n
  induction n with
  | zero =>
    intro _ _ _ _ _ a0 a1 hf
    have h0 : (none : Option (Mem)) = some (M') := hf
    cases h0
  | succ n ih =>
    intro _ _ _ _ _ a0 a1 hf
    exact ob_X9_takes_L59 h hE hR  ih a0 a1 hf
def b_X9_takes_L18 (E : Env1) (n1 : Nat) (k18 : Mem → Nat → Nat → Int32 → Int32 → (Option (Mem))) (M : Mem) (v0 : Nat) (v1 : Nat) (v2 : Int32) (v3 : Int32) : Option (Mem) :=
  if (6 : Int32) ≤ v3 then (f_X9_takes_L59 E n1 FU M v0 v1 v2 (0 : Int32))
  else (
    gd ((v2 + (2 : Int32)) + v3) n1 (gd v3 6 (gd ((v2 + (8 : Int32)) + v3) n1 (nm (wi (wi M (rr E v0 10) (ix v3) (mi M v1 (ix ((v2 + (2 : Int32)) + v3)))) (rr E v0 9) (ix v3) (mi (wi M (rr E v0 10) (ix v3) (mi M v1 (ix ((v2 + (2 : Int32)) + v3)))) v1 (ix ((v2 + (8 : Int32)) + v3)))) fun M5 =>
    k18 M5 v0 v1 v2 (v3 + 1)))))
set_option maxRecDepth 100000 in
set_option maxHeartbeats 4000000 in
theorem ob_X9_takes_L18 {X : Ctx} {l0 : Launch} {E : Env1} (h : Cx X l0 E RX9 cX9_takes none 4 rm_X9_takes) (hE : WF E) {M' : Mem} {n1 : Nat} (hR : RetV X E cX9_takes M') {k18 : Mem → Nat → Nat → Int32 → Int32 → (Option (Mem))} (hk18 : ∀ (M : Mem) (v0 : Nat) (v1 : Nat) (v2 : Int32) (v3 : Int32), isK E v0 8 → isA E v1 9 n1 → k18 M v0 v1 v2 v3 = some (M') → G X E (0, 0) 18 [some (.ref v0), some (.ref v1), some (.int v2), some (.int v3)] [] M) {M : Mem} {v0 : Nat} {v1 : Nat} {v2 : Int32} {v3 : Int32} (h_v0 : isK E v0 8) (h_v1 : isA E v1 9 n1) (hf : b_X9_takes_L18 E n1 k18 M v0 v1 v2 v3 = some (M')) : G X E (0, 0) 18 [some (.ref v0), some (.ref v1), some (.int v2), some (.int v3)] [] M := by
  unfold b_X9_takes_L18 at hf
  refine G_iload_n h dX9_takes_18 (i := 3) rfl rfl rfl ?_
  refine G_bipush h dX9_takes_19 kb_6 rfl ?_
  refine G_icmp_ge h dX9_takes_21 (tgt := 57) (by decide) rfl (fun c1 => ?_) (fun c1 => ?_)
  · have hf := it_t c1 hf
    refine G_iconst h dX9_takes_57 ki_0 rfl ?_
    refine G_istore_n h dX9_takes_58 (i := 3) rfl (by decide) (L' := [some (.ref v0), some (.ref v1), some (.int v2), some (.int (0 : Int32))]) rfl rfl ?_
    exact o_X9_takes_L59 h hE hR  FU _ _ _ _ _ h_v0 h_v1 hf
  · have hf := it_f c1 hf
    refine G_aload_n h dX9_takes_24 (i := 0) rfl rfl rfl ?_
    refine gf_X9_22 h hE dX9_takes_25 h_v0 rfl ?_
    refine G_iload_n h dX9_takes_28 (i := 3) rfl rfl rfl ?_
    refine G_aload_n h dX9_takes_29 (i := 1) rfl rfl rfl ?_
    refine G_iload_n h dX9_takes_30 (i := 2) rfl rfl rfl ?_
    refine G_iconst h dX9_takes_31 ki_2 rfl ?_
    refine G_iadd h dX9_takes_32 rfl ?_
    refine G_iload_n h dX9_takes_33 (i := 3) rfl rfl rfl ?_
    refine G_iadd h dX9_takes_34 rfl ?_
    obtain ⟨g2, hf⟩ := gd_some hf
    refine G_iald h dX9_takes_35 h_v1 g2 (jx := (ix ((v2 + (2 : Int32)) + v3))) rfl rfl ?_
    obtain ⟨g3, hf⟩ := gd_some hf
    refine G_iast h dX9_takes_36 ((w_8_10 hE h_v0).2) g3 (jx := (ix v3)) rfl rfl ?_
    refine G_aload_n h dX9_takes_37 (i := 0) rfl rfl rfl ?_
    refine gf_X9_19 h hE dX9_takes_38 h_v0 rfl ?_
    refine G_iload_n h dX9_takes_41 (i := 3) rfl rfl rfl ?_
    refine G_aload_n h dX9_takes_42 (i := 1) rfl rfl rfl ?_
    refine G_iload_n h dX9_takes_43 (i := 2) rfl rfl rfl ?_
    refine G_bipush h dX9_takes_44 kb_8 rfl ?_
    refine G_iadd h dX9_takes_46 rfl ?_
    refine G_iload_n h dX9_takes_47 (i := 3) rfl rfl rfl ?_
    refine G_iadd h dX9_takes_48 rfl ?_
    obtain ⟨g4, hf⟩ := gd_some hf
    refine G_iald h dX9_takes_49 h_v1 g4 (jx := (ix ((v2 + (8 : Int32)) + v3))) rfl rfl ?_
    refine G_iast h dX9_takes_50 ((w_8_9 hE h_v0).2) g3 (jx := (ix v3)) rfl rfl ?_
    refine G_nmM (fun M5 hM5 => ?_)
    have hf := nm_eq hM5 hf
    refine G_iinc2 h dX9_takes_51 rfl ki_1 (by decide) (L' := [some (.ref v0), some (.ref v1), some (.int v2), some (.int (v3 + 1))]) rfl rfl ?_
    refine G_goto h dX9_takes_54 (tgt := 18) (by decide) ?_
    exact hk18 _ _ _ _ _ h_v0 h_v1 hf
def f_X9_takes_L18 (E : Env1) (n1 : Nat) : Nat → Mem → Nat → Nat → Int32 → Int32 → (Option (Mem))
  | 0 => fun _ _ _ _ _ => none
  | n + 1 => b_X9_takes_L18 E n1 (f_X9_takes_L18 E n1 n)
theorem o_X9_takes_L18 {X : Ctx} {l0 : Launch} {E : Env1} (h : Cx X l0 E RX9 cX9_takes none 4 rm_X9_takes) (hE : WF E) {M' : Mem} {n1 : Nat} (hR : RetV X E cX9_takes M') : ∀ (n : Nat) (M : Mem) (v0 : Nat) (v1 : Nat) (v2 : Int32) (v3 : Int32), isK E v0 8 → isA E v1 9 n1 → f_X9_takes_L18 E n1 n M v0 v1 v2 v3 = some (M') → G X E (0, 0) 18 [some (.ref v0), some (.ref v1), some (.int v2), some (.int v3)] [] M := by
  intro n
  induction n with
  | zero =>
    intro _ _ _ _ _ a0 a1 hf
    have h0 : (none : Option (Mem)) = some (M') := hf
    cases h0
  | succ n ih =>
    intro _ _ _ _ _ a0 a1 hf
    exact ob_X9_takes_L18 h hE hR  ih a0 a1 hf
def f_X9_takes (E : Env1) (n1 : Nat) (M : Mem) (v0 : Nat) (v1 : Nat) (v2 : Int32) : Option (Mem) :=
  gd v2 n1 (gd (v2 + (1 : Int32)) n1 (nm (wi (wi M v0 2 (mi M v1 (ix v2))) v0 3 (mi (wi M v0 2 (mi M v1 (ix v2))) v1 (ix (v2 + (1 : Int32))))) fun M3 =>
  f_X9_takes_L18 E n1 FU M3 v0 v1 v2 (0 : Int32)))
set_option maxRecDepth 100000 in
set_option maxHeartbeats 4000000 in
theorem ok_X9_takes {E : Env1} (hE : WF E) (l0 : Launch) {M : Mem} {M' : Mem} {n1 : Nat} {v0 : Nat} {v1 : Nat} {v2 : Int32} (h0 : isK E v0 8) (h1 : isA E v1 9 n1) (hf : f_X9_takes E n1 M v0 v1 v2 = some (M')) : Met l0 yX9_takes (wsA yX9_takes cX9_takes 4 none) rm_X9_takes (CP E M [.ref v0, .ref v1, .int v2]) (CQv E M') 0 0 (eA E) := by
  unfold f_X9_takes at hf
  refine mtV l0 (by decide +kernel) (Nat.le_of_ble_eq_true rfl) (L0 := [some (.ref v0), some (.ref v1), some (.int v2), none]) rfl (fun X h hR => ?_)
  refine G_aload_n h dX9_takes_0 (i := 0) rfl rfl rfl ?_
  refine G_aload_n h dX9_takes_1 (i := 1) rfl rfl rfl ?_
  refine G_iload_n h dX9_takes_2 (i := 2) rfl rfl rfl ?_
  obtain ⟨g1, hf⟩ := gd_some hf
  refine G_iald h dX9_takes_3 h1 g1 (jx := (ix v2)) rfl rfl ?_
  refine pf_X9_73 h dX9_takes_4 h0 rfl ?_
  refine G_aload_n h dX9_takes_7 (i := 0) rfl rfl rfl ?_
  refine G_aload_n h dX9_takes_8 (i := 1) rfl rfl rfl ?_
  refine G_iload_n h dX9_takes_9 (i := 2) rfl rfl rfl ?_
  refine G_iconst h dX9_takes_10 ki_1 rfl ?_
  refine G_iadd h dX9_takes_11 rfl ?_
  obtain ⟨g2, hf⟩ := gd_some hf
  refine G_iald h dX9_takes_12 h1 g2 (jx := (ix (v2 + (1 : Int32)))) rfl rfl ?_
  refine pf_X9_76 h dX9_takes_13 h0 rfl ?_
  refine G_nmM (fun M3 hM3 => ?_)
  have hf := nm_eq hM3 hf
  refine G_iconst h dX9_takes_16 ki_0 rfl ?_
  refine G_istore_n h dX9_takes_17 (i := 3) rfl (by decide) (L' := [some (.ref v0), some (.ref v1), some (.int v2), some (.int (0 : Int32))]) rfl rfl ?_
  exact o_X9_takes_L18 h hE hR  FU _ _ _ _ _ h0 h1 hf
def rm_X9_evenings : Room := { frames := 5, cells := 0, slots := 0, locals := 114 }
def b_X9_evenings_L41 (E : Env1) (k41 : Mem → Nat → Int32 → Int64 → Int32 → (Option (Int32 × Mem))) (M : Mem) (v0 : Nat) (v2 : Int32) (v3 : Int64) (v5 : Int32) : Option (Int32 × Mem) :=
  if v2 ≤ v5 then (
    (f_X9_knownAll E M v0).bind fun x2 =>
    (f_X9_takes E 22 M v0 (rr E v0 22) (0 : Int32)).bind fun x3 =>
    some (x2, x3))
  else (
    nm (((v3 * (1103515245 : Int64)) + (12345 : Int64)) - ((v3 * (1103515245 : Int64)) + (12345 : Int64)) / (2147483648 : Int64) * (2147483648 : Int64)) fun x4 =>
    nm (((x4 / (65536 : Int64)) - (x4 / (65536 : Int64)) / (6 : Int64) * (6 : Int64)).toInt32) fun x5 =>
    nm (((x4 / (1048576 : Int64)) - (x4 / (1048576 : Int64)) / (8 : Int64) * (8 : Int64)).toInt32) fun x6 =>
    if (f_X9_isOne E M v0 x5) = 0 then (
      (f_X9_passes E M v0).bind fun x9 =>
      k41 x9 v0 v2 x4 (v5 + 1))
    else (
      (f_X9_learns E M v0 x5 x6).bind fun x10 =>
      (f_X9_passes E x10 v0).bind fun x11 =>
      k41 x11 v0 v2 x4 (v5 + 1)))
set_option maxRecDepth 100000 in
set_option maxHeartbeats 4000000 in
theorem ob_X9_evenings_L41 {X : Ctx} {l0 : Launch} {E : Env1} (h : Cx X l0 E RX9 cX9_evenings (some .int) 8 rm_X9_evenings) (hE : WF E) {M' : Mem} {r : Int32} (hR : RetI X E cX9_evenings r M') {k41 : Mem → Nat → Int32 → Int64 → Int32 → (Option (Int32 × Mem))} (hk41 : ∀ (M : Mem) (v0 : Nat) (v2 : Int32) (v3 : Int64) (v5 : Int32), isK E v0 8 → k41 M v0 v2 v3 v5 = some (r, M') → G X E (0, 0) 41 [some (.ref v0), none, some (.int v2), some (.long v3), none, some (.int v5), none, none] [] M) {M : Mem} {v0 : Nat} {v2 : Int32} {v3 : Int64} {v5 : Int32} (h_v0 : isK E v0 8) (hf : b_X9_evenings_L41 E k41 M v0 v2 v3 v5 = some (r, M')) : G X E (0, 0) 41 [some (.ref v0), none, some (.int v2), some (.long v3), none, some (.int v5), none, none] [] M := by
  unfold b_X9_evenings_L41 at hf
  refine G_iload h dX9_evenings_41 rfl rfl ?_
  refine G_iload_n h dX9_evenings_43 (i := 2) rfl rfl rfl ?_
  refine G_icmp_ge h dX9_evenings_44 (tgt := 112) (by decide) rfl (fun c1 => ?_) (fun c1 => ?_)
  · have hf := it_t c1 hf
    refine G_aload_n h dX9_evenings_112 (i := 0) rfl rfl rfl ?_
    obtain ⟨x2, hx2, hf⟩ := bd hf
    refine cl_X9_235 h (ok_X9_knownAll hE _ h_v0 hx2) dX9_evenings_113 h_v0 (as := []) rfl rfl ⟨rfl, rfl, Nat.le_of_ble_eq_true rfl, Nat.le_of_ble_eq_true rfl⟩ rfl (Nat.le_of_ble_eq_true rfl) ?_
    refine G_istore h dX9_evenings_116  (by decide) (L' := [some (.ref v0), none, some (.int v2), some (.long v3), none, some (.int x2), none, none]) rfl rfl ?_
    refine G_aload_n h dX9_evenings_118 (i := 0) rfl rfl rfl ?_
    refine G_aload_n h dX9_evenings_119 (i := 0) rfl rfl rfl ?_
    refine gf_X9_46 h hE dX9_evenings_120 h_v0 rfl ?_
    refine G_iconst h dX9_evenings_123 ki_0 rfl ?_
    obtain ⟨x3, hx3, hf⟩ := bd hf
    refine cl_X9_241 h (ok_X9_takes hE _ h_v0 ((w_8_22 hE h_v0).2) hx3) dX9_evenings_124 h_v0 (as := [.ref (rr E v0 22), .int (0 : Int32)]) rfl rfl ⟨rfl, rfl, Nat.le_of_ble_eq_true rfl, Nat.le_of_ble_eq_true rfl⟩ rfl (Nat.le_of_ble_eq_true rfl) ?_
    refine G_iload h dX9_evenings_127 rfl rfl ?_
    exact pwI hR dX9_evenings_129 hf
  · have hf := it_f c1 hf
    refine G_lload_n h dX9_evenings_47 (i := 3) rfl rfl rfl ?_
    refine G_ldc2 h q1355 dX9_evenings_48 rfl ?_
    refine G_lmul h dX9_evenings_51 rfl ?_
    refine G_ldc2 h q1356 dX9_evenings_52 rfl ?_
    refine G_ladd h dX9_evenings_55 rfl ?_
    refine G_ldc2 h q1357 dX9_evenings_56 rfl ?_
    refine G_lrem h dX9_evenings_59 (by decide) rfl ?_
    refine G_nml (fun x4 hx4 => ?_)
    have hf := nm_eq hx4 hf
    refine G_lstore_n h dX9_evenings_60 (i := 3) rfl (by decide) (L' := [some (.ref v0), none, some (.int v2), some (.long x4), none, some (.int v5), none, none]) rfl rfl ?_
    refine G_lload_n h dX9_evenings_61 (i := 3) rfl rfl rfl ?_
    refine G_ldc2 h q1358 dX9_evenings_62 rfl ?_
    refine G_ldiv h dX9_evenings_65 (by decide) rfl ?_
    refine G_ldc2 h q1359 dX9_evenings_66 rfl ?_
    refine G_lrem h dX9_evenings_69 (by decide) rfl ?_
    refine G_l2i h dX9_evenings_70 rfl ?_
    refine G_nmi (fun x5 hx5 => ?_)
    have hf := nm_eq hx5 hf
    refine G_istore h dX9_evenings_71  (by decide) (L' := [some (.ref v0), none, some (.int v2), some (.long x4), none, some (.int v5), some (.int x5), none]) rfl rfl ?_
    refine G_lload_n h dX9_evenings_73 (i := 3) rfl rfl rfl ?_
    refine G_ldc2 h q1360 dX9_evenings_74 rfl ?_
    refine G_ldiv h dX9_evenings_77 (by decide) rfl ?_
    refine G_ldc2 h q1361 dX9_evenings_78 rfl ?_
    refine G_lrem h dX9_evenings_81 (by decide) rfl ?_
    refine G_l2i h dX9_evenings_82 rfl ?_
    refine G_nmi (fun x6 hx6 => ?_)
    have hf := nm_eq hx6 hf
    refine G_istore h dX9_evenings_83  (by decide) (L' := [some (.ref v0), none, some (.int v2), some (.long x4), none, some (.int v5), some (.int x5), some (.int x6)]) rfl rfl ?_
    refine G_aload_n h dX9_evenings_85 (i := 0) rfl rfl rfl ?_
    refine G_iload h dX9_evenings_86 rfl rfl ?_
    refine cl_X9_216 h (ok_X9_isOne hE _ h_v0 (r := f_X9_isOne E M v0 x5) rfl) dX9_evenings_88 h_v0 (as := [.int x5]) rfl rfl ⟨rfl, rfl, Nat.le_of_ble_eq_true rfl, Nat.le_of_ble_eq_true rfl⟩ rfl (Nat.le_of_ble_eq_true rfl) (fun z7 => ?_)
    refine G_if_eq h dX9_evenings_91 (tgt := 102) (by decide) rfl (fun c8 => ?_) (fun c8 => ?_)
    · have hf := it_t c8 hf
      refine G_aload_n h dX9_evenings_102 (i := 0) rfl rfl rfl ?_
      obtain ⟨x9, hx9, hf⟩ := bd hf
      refine cl_X9_204 h (ok_X9_passes hE _ h_v0 hx9) dX9_evenings_103 h_v0 (as := []) rfl rfl ⟨rfl, rfl, Nat.le_of_ble_eq_true rfl, Nat.le_of_ble_eq_true rfl⟩ rfl (Nat.le_of_ble_eq_true rfl) ?_
      refine G_iinc2 h dX9_evenings_106 rfl ki_1 (by decide) (L' := [some (.ref v0), none, some (.int v2), some (.long x4), none, some (.int (v5 + 1)), some (.int x5), some (.int x6)]) rfl rfl ?_
      refine G_goto h dX9_evenings_109 (tgt := 41) (by decide) ?_
      refine G_mskL [true, false, true, true, false, true, false, false] (L' := [some (.ref v0), none, some (.int v2), some (.long x4), none, some (.int (v5 + 1)), none, none]) rfl ?_
      exact hk41 _ _ _ _ _ h_v0 hf
    · have hf := it_f c8 hf
      refine G_aload_n h dX9_evenings_94 (i := 0) rfl rfl rfl ?_
      refine G_iload h dX9_evenings_95 rfl rfl ?_
      refine G_iload h dX9_evenings_97 rfl rfl ?_
      obtain ⟨x10, hx10, hf⟩ := bd hf
      refine cl_X9_228 h (ok_X9_learns hE _ h_v0 hx10) dX9_evenings_99 h_v0 (as := [.int x5, .int x6]) rfl rfl ⟨rfl, rfl, Nat.le_of_ble_eq_true rfl, Nat.le_of_ble_eq_true rfl⟩ rfl (Nat.le_of_ble_eq_true rfl) ?_
      refine G_aload_n h dX9_evenings_102 (i := 0) rfl rfl rfl ?_
      obtain ⟨x11, hx11, hf⟩ := bd hf
      refine cl_X9_204 h (ok_X9_passes hE _ h_v0 hx11) dX9_evenings_103 h_v0 (as := []) rfl rfl ⟨rfl, rfl, Nat.le_of_ble_eq_true rfl, Nat.le_of_ble_eq_true rfl⟩ rfl (Nat.le_of_ble_eq_true rfl) ?_
      refine G_iinc2 h dX9_evenings_106 rfl ki_1 (by decide) (L' := [some (.ref v0), none, some (.int v2), some (.long x4), none, some (.int (v5 + 1)), some (.int x5), some (.int x6)]) rfl rfl ?_
      refine G_goto h dX9_evenings_109 (tgt := 41) (by decide) ?_
      refine G_mskL [true, false, true, true, false, true, false, false] (L' := [some (.ref v0), none, some (.int v2), some (.long x4), none, some (.int (v5 + 1)), none, none]) rfl ?_
      exact hk41 _ _ _ _ _ h_v0 hf
def f_X9_evenings_L41 (E : Env1) : Nat → Mem → Nat → Int32 → Int64 → Int32 → (Option (Int32 × Mem))
  | 0 => fun _ _ _ _ _ => none
  | n + 1 => b_X9_evenings_L41 E (f_X9_evenings_L41 E n)
theorem o_X9_evenings_L41 {X : Ctx} {l0 : Launch} {E : Env1} (h : Cx X l0 E RX9 cX9_evenings (some .int) 8 rm_X9_evenings) (hE : WF E) {M' : Mem} {r : Int32} (hR : RetI X E cX9_evenings r M') : ∀ (n : Nat) (M : Mem) (v0 : Nat) (v2 : Int32) (v3 : Int64) (v5 : Int32), isK E v0 8 → f_X9_evenings_L41 E n M v0 v2 v3 v5 = some (r, M') → G X E (0, 0) 41 [some (.ref v0), none, some (.int v2), some (.long v3), none, some (.int v5), none, none] [] M := by
  intro n
  induction n with
  | zero =>
    intro _ _ _ _ _ a0 hf
    have h0 : (none : Option (Int32 × Mem)) = some (r, M') := hf
    cases h0
  | succ n ih =>
    intro _ _ _ _ _ a0 hf
    exact ob_X9_evenings_L41 h hE hR  ih a0 hf
def f_X9_evenings (E : Env1) (M : Mem) (v0 : Nat) (v1 : Int32) (v2 : Int32) : Option (Int32 × Mem) :=
  if (f_X9_in E M v1 (0 : Int32) (999999 : Int32)) = 0 then (
    nm (f_X9_bad E M v0) fun x3 =>
    some (x3.1, x3.2))
  else (
    if (f_X9_in E M v2 (0 : Int32) (60 : Int32)) = 0 then (
      nm (f_X9_bad E M v0) fun x7 =>
      some (x7.1, x7.2))
    else (
      (f_X9_lays E 22 M v0 (rr E v0 22) (0 : Int32)).bind fun x6 =>
      f_X9_evenings_L41 E FU x6 v0 v2 v1.toInt64 (0 : Int32)))
set_option maxRecDepth 100000 in
set_option maxHeartbeats 4000000 in
theorem ok_X9_evenings {E : Env1} (hE : WF E) (l0 : Launch) {M : Mem} {M' : Mem} {v0 : Nat} {v1 : Int32} {v2 : Int32} {r : Int32} (h0 : isK E v0 8) (hf : f_X9_evenings E M v0 v1 v2 = some (r, M')) : Met l0 yX9_evenings (wsA yX9_evenings cX9_evenings 8 (some .int)) rm_X9_evenings (CP E M [.ref v0, .int v1, .int v2]) (CQi E r M') 0 0 (eA E) := by
  unfold f_X9_evenings at hf
  refine mtI l0 (by decide +kernel) (Nat.le_of_ble_eq_true rfl) (L0 := [some (.ref v0), some (.int v1), some (.int v2), none, none, none, none, none]) rfl (fun X h hR => ?_)
  refine G_iload_n h dX9_evenings_0 (i := 1) rfl rfl rfl ?_
  refine G_iconst h dX9_evenings_1 ki_0 rfl ?_
  refine G_ldcw h q1354 dX9_evenings_2 rfl ?_
  refine cl_X9_91 h (ok_X9_in hE _  (r := f_X9_in E M v1 (0 : Int32) (999999 : Int32)) rfl) dX9_evenings_5 (as := [.int v1, .int (0 : Int32), .int (999999 : Int32)]) rfl rfl ⟨rfl, rfl, Nat.le_of_ble_eq_true rfl, Nat.le_of_ble_eq_true rfl⟩ rfl (Nat.le_of_ble_eq_true rfl) (fun z1 => ?_)
  refine G_if_eq h dX9_evenings_8 (tgt := 21) (by decide) rfl (fun c2 => ?_) (fun c2 => ?_)
  · have hf := it_t c2 hf
    refine G_aload_n h dX9_evenings_21 (i := 0) rfl rfl rfl ?_
    obtain ⟨x3, hx3⟩ : ∃ x, x = f_X9_bad E M v0 := ⟨_, rfl⟩
    have hf := nm_eq hx3 hf
    refine cl_X9_95 h (ok_X9_bad hE _ h0 hx3.symm) dX9_evenings_22 h0 (as := []) rfl rfl ⟨rfl, rfl, Nat.le_of_ble_eq_true rfl, Nat.le_of_ble_eq_true rfl⟩ rfl (Nat.le_of_ble_eq_true rfl) ?_
    exact pwI hR dX9_evenings_25 hf
  · have hf := it_f c2 hf
    refine G_iload_n h dX9_evenings_11 (i := 2) rfl rfl rfl ?_
    refine G_iconst h dX9_evenings_12 ki_0 rfl ?_
    refine G_bipush h dX9_evenings_13 kb_60 rfl ?_
    refine cl_X9_91 h (ok_X9_in hE _  (r := f_X9_in E M v2 (0 : Int32) (60 : Int32)) rfl) dX9_evenings_15 (as := [.int v2, .int (0 : Int32), .int (60 : Int32)]) rfl rfl ⟨rfl, rfl, Nat.le_of_ble_eq_true rfl, Nat.le_of_ble_eq_true rfl⟩ rfl (Nat.le_of_ble_eq_true rfl) (fun z4 => ?_)
    refine G_if_ne h dX9_evenings_18 (tgt := 26) (by decide) rfl (fun c5 => ?_) (fun c5 => ?_)
    · have hf := it_f c5 hf
      refine G_aload_n h dX9_evenings_26 (i := 0) rfl rfl rfl ?_
      refine G_aload_n h dX9_evenings_27 (i := 0) rfl rfl rfl ?_
      refine gf_X9_46 h hE dX9_evenings_28 h0 rfl ?_
      refine G_iconst h dX9_evenings_31 ki_0 rfl ?_
      obtain ⟨x6, hx6, hf⟩ := bd hf
      refine cl_X9_207 h (ok_X9_lays hE _ h0 ((w_8_22 hE h0).2) hx6) dX9_evenings_32 h0 (as := [.ref (rr E v0 22), .int (0 : Int32)]) rfl rfl ⟨rfl, rfl, Nat.le_of_ble_eq_true rfl, Nat.le_of_ble_eq_true rfl⟩ rfl (Nat.le_of_ble_eq_true rfl) ?_
      refine G_iload_n h dX9_evenings_35 (i := 1) rfl rfl rfl ?_
      refine G_i2l h dX9_evenings_36 rfl ?_
      refine G_lstore_n h dX9_evenings_37 (i := 3) rfl (by decide) (L' := [some (.ref v0), some (.int v1), some (.int v2), some (.long v1.toInt64), none, none, none, none]) rfl rfl ?_
      refine G_iconst h dX9_evenings_38 ki_0 rfl ?_
      refine G_istore h dX9_evenings_39  (by decide) (L' := [some (.ref v0), some (.int v1), some (.int v2), some (.long v1.toInt64), none, some (.int (0 : Int32)), none, none]) rfl rfl ?_
      refine G_mskL [true, false, true, true, false, true, false, false] (L' := [some (.ref v0), none, some (.int v2), some (.long v1.toInt64), none, some (.int (0 : Int32)), none, none]) rfl ?_
      exact o_X9_evenings_L41 h hE hR  FU _ _ _ _ _ h0 hf
    · have hf := it_t c5 hf
      refine G_aload_n h dX9_evenings_21 (i := 0) rfl rfl rfl ?_
      obtain ⟨x7, hx7⟩ : ∃ x, x = f_X9_bad E M v0 := ⟨_, rfl⟩
      have hf := nm_eq hx7 hf
      refine cl_X9_95 h (ok_X9_bad hE _ h0 hx7.symm) dX9_evenings_22 h0 (as := []) rfl rfl ⟨rfl, rfl, Nat.le_of_ble_eq_true rfl, Nat.le_of_ble_eq_true rfl⟩ rfl (Nat.le_of_ble_eq_true rfl) ?_
      exact pwI hR dX9_evenings_25 hf
def rm_X9_forget : Room := { frames := 1, cells := 0, slots := 0, locals := 22 }
def f_X9_forget (E : Env1) (M : Mem) (v0 : Nat) (v1 : Int32) : Int32 × Mem :=
  if (f_X9_in E M v1 (0 : Int32) (2 : Int32)) = 0 then (
    nm (f_X9_bad E M v0) fun x10 =>
    (x10.1, x10.2))
  else (
    nm (if v1 = 0 then mi M v0 4 else if v1 = (1 : Int32) then mi M v0 5 else mi M v0 6) fun x5 =>
    nm (wi (wi M v0 4 (if v1 = 0 then (0 : Int32) else mi M v0 4)) v0 5 (if v1 = (1 : Int32) then (0 : Int32) else mi (wi M v0 4 (if v1 = 0 then (0 : Int32) else mi M v0 4)) v0 5)) fun M8 =>
    (x5, wi M8 v0 6 (if v1 = (2 : Int32) then (0 : Int32) else mi M8 v0 6)))
set_option maxRecDepth 100000 in
set_option maxHeartbeats 4000000 in
theorem ok_X9_forget {E : Env1} (hE : WF E) (l0 : Launch) {M : Mem} {M' : Mem} {v0 : Nat} {v1 : Int32} {r : Int32} (h0 : isK E v0 8) (hf : f_X9_forget E M v0 v1 = (r, M')) : Met l0 yX9_forget (wsA yX9_forget cX9_forget 3 (some .int)) rm_X9_forget (CP E M [.ref v0, .int v1]) (CQi E r M') 0 0 (eA E) := by
  unfold f_X9_forget at hf
  refine mtI l0 (by decide +kernel) (Nat.le_of_ble_eq_true rfl) (L0 := [some (.ref v0), some (.int v1), none]) rfl (fun X h hR => ?_)
  refine G_iload_n h dX9_forget_0 (i := 1) rfl rfl rfl ?_
  refine G_iconst h dX9_forget_1 ki_0 rfl ?_
  refine G_iconst h dX9_forget_2 ki_2 rfl ?_
  refine cl_X9_91 h (ok_X9_in hE _  (r := f_X9_in E M v1 (0 : Int32) (2 : Int32)) rfl) dX9_forget_3 (as := [.int v1, .int (0 : Int32), .int (2 : Int32)]) rfl rfl ⟨rfl, rfl, Nat.le_of_ble_eq_true rfl, Nat.le_of_ble_eq_true rfl⟩ rfl (Nat.le_of_ble_eq_true rfl) (fun z1 => ?_)
  refine G_if_ne h dX9_forget_6 (tgt := 14) (by decide) rfl (fun c2 => ?_) (fun c2 => ?_)
  · have hf := it_f c2 hf
    refine G_iload_n h dX9_forget_14 (i := 1) rfl rfl rfl ?_
    have hJ : G X E (0, 0) 41 [some (.ref v0), some (.int v1), none] [.int (if v1 = 0 then mi M v0 4 else if v1 = (1 : Int32) then mi M v0 5 else mi M v0 6)] M := by
      refine G_nmi (fun x5 hx5 => ?_)
      have hf := nm_eq hx5 hf
      refine G_istore_n h dX9_forget_41 (i := 2) rfl (by decide) (L' := [some (.ref v0), some (.int v1), some (.int x5)]) rfl rfl ?_
      refine G_aload_n h dX9_forget_42 (i := 0) rfl rfl rfl ?_
      refine G_iload_n h dX9_forget_43 (i := 1) rfl rfl rfl ?_
      have hJ : G X E (0, 0) 55 [some (.ref v0), some (.int v1), some (.int x5)] [.int (if v1 = 0 then (0 : Int32) else mi M v0 4), .ref v0] M := by
        refine pf_X9_79 h dX9_forget_55 h0 rfl ?_
        refine G_aload_n h dX9_forget_58 (i := 0) rfl rfl rfl ?_
        refine G_iload_n h dX9_forget_59 (i := 1) rfl rfl rfl ?_
        refine G_iconst h dX9_forget_60 ki_1 rfl ?_
        have hJ : G X E (0, 0) 72 [some (.ref v0), some (.int v1), some (.int x5)] [.int (if v1 = (1 : Int32) then (0 : Int32) else mi (wi M v0 4 (if v1 = 0 then (0 : Int32) else mi M v0 4)) v0 5), .ref v0] (wi M v0 4 (if v1 = 0 then (0 : Int32) else mi M v0 4)) := by
          refine pf_X9_82 h dX9_forget_72 h0 rfl ?_
          refine G_nmM (fun M8 hM8 => ?_)
          have hf := nm_eq hM8 hf
          refine G_aload_n h dX9_forget_75 (i := 0) rfl rfl rfl ?_
          refine G_iload_n h dX9_forget_76 (i := 1) rfl rfl rfl ?_
          refine G_iconst h dX9_forget_77 ki_2 rfl ?_
          have hJ : G X E (0, 0) 89 [some (.ref v0), some (.int v1), some (.int x5)] [.int (if v1 = (2 : Int32) then (0 : Int32) else mi M8 v0 6), .ref v0] M8 := by
            refine pf_X9_85 h dX9_forget_89 h0 rfl ?_
            refine G_iload_n h dX9_forget_92 (i := 2) rfl rfl rfl ?_
            exact twI hR dX9_forget_93 hf
          refine G_icmp_ne h dX9_forget_78 (tgt := 85) (by decide) rfl (fun c9 => ?_) (fun c9 => ?_)
          · refine G_aload_n h dX9_forget_85 (i := 0) rfl rfl rfl ?_
            refine gf_X9_85 h dX9_forget_86 h0 rfl ?_
            exact G_ifn c9 hJ
          · refine G_iconst h dX9_forget_81 ki_0 rfl ?_
            refine G_goto h dX9_forget_82 (tgt := 89) (by decide) ?_
            exact G_ifp c9 hJ
        refine G_icmp_ne h dX9_forget_61 (tgt := 68) (by decide) rfl (fun c7 => ?_) (fun c7 => ?_)
        · refine G_aload_n h dX9_forget_68 (i := 0) rfl rfl rfl ?_
          refine gf_X9_82 h dX9_forget_69 h0 rfl ?_
          exact G_ifn c7 hJ
        · refine G_iconst h dX9_forget_64 ki_0 rfl ?_
          refine G_goto h dX9_forget_65 (tgt := 72) (by decide) ?_
          exact G_ifp c7 hJ
      refine G_if_ne h dX9_forget_44 (tgt := 51) (by decide) rfl (fun c6 => ?_) (fun c6 => ?_)
      · refine G_aload_n h dX9_forget_51 (i := 0) rfl rfl rfl ?_
        refine gf_X9_79 h dX9_forget_52 h0 rfl ?_
        exact G_ifn c6 hJ
      · refine G_iconst h dX9_forget_47 ki_0 rfl ?_
        refine G_goto h dX9_forget_48 (tgt := 55) (by decide) ?_
        exact G_ifp c6 hJ
    refine G_if_ne h dX9_forget_15 (tgt := 25) (by decide) rfl (fun c3 => ?_) (fun c3 => ?_)
    · refine G_iload_n h dX9_forget_25 (i := 1) rfl rfl rfl ?_
      refine G_iconst h dX9_forget_26 ki_1 rfl ?_
      refine G_icmp_ne h dX9_forget_27 (tgt := 37) (by decide) rfl (fun c4 => ?_) (fun c4 => ?_)
      · refine G_aload_n h dX9_forget_37 (i := 0) rfl rfl rfl ?_
        refine gf_X9_85 h dX9_forget_38 h0 rfl ?_
        exact G_ifn c4 (G_ifn c3 hJ)
      · refine G_aload_n h dX9_forget_30 (i := 0) rfl rfl rfl ?_
        refine gf_X9_82 h dX9_forget_31 h0 rfl ?_
        refine G_goto h dX9_forget_34 (tgt := 41) (by decide) ?_
        exact G_ifp c4 (G_ifn c3 hJ)
    · refine G_aload_n h dX9_forget_18 (i := 0) rfl rfl rfl ?_
      refine gf_X9_79 h dX9_forget_19 h0 rfl ?_
      refine G_goto h dX9_forget_22 (tgt := 41) (by decide) ?_
      exact G_ifp c3 hJ
  · have hf := it_t c2 hf
    refine G_aload_n h dX9_forget_9 (i := 0) rfl rfl rfl ?_
    obtain ⟨x10, hx10⟩ : ∃ x, x = f_X9_bad E M v0 := ⟨_, rfl⟩
    have hf := nm_eq hx10 hf
    refine cl_X9_95 h (ok_X9_bad hE _ h0 hx10.symm) dX9_forget_10 h0 (as := []) rfl rfl ⟨rfl, rfl, Nat.le_of_ble_eq_true rfl, Nat.le_of_ble_eq_true rfl⟩ rfl (Nat.le_of_ble_eq_true rfl) ?_
    exact twI hR dX9_forget_13 hf
def rm_X9_takeAll : Room := { frames := 1, cells := 0, slots := 0, locals := 23 }
def b_X9_takeAll_L170 (E : Env1) (n1 : Nat) (k170 : Mem → Nat → Nat → Int32 → Int32 → (Option (Mem))) (M : Mem) (v0 : Nat) (v1 : Nat) (v2 : Int32) (v3 : Int32) : Option (Mem) :=
  if (176 : Int32) ≤ v3 then (some M)
  else (gd ((v2 + (105 : Int32)) + v3) n1 (gd v3 176 (k170 (wi M (rr E v0 20) (ix v3) (mi M v1 (ix ((v2 + (105 : Int32)) + v3)))) v0 v1 v2 (v3 + 1))))
set_option maxRecDepth 100000 in
set_option maxHeartbeats 4000000 in
theorem ob_X9_takeAll_L170 {X : Ctx} {l0 : Launch} {E : Env1} (h : Cx X l0 E RX9 cX9_takeAll none 4 rm_X9_takeAll) (hE : WF E) {M' : Mem} {n1 : Nat} (hR : RetV X E cX9_takeAll M') {k170 : Mem → Nat → Nat → Int32 → Int32 → (Option (Mem))} (hk170 : ∀ (M : Mem) (v0 : Nat) (v1 : Nat) (v2 : Int32) (v3 : Int32), isK E v0 8 → isA E v1 9 n1 → k170 M v0 v1 v2 v3 = some (M') → G X E (0, 0) 170 [some (.ref v0), some (.ref v1), some (.int v2), some (.int v3)] [] M) {M : Mem} {v0 : Nat} {v1 : Nat} {v2 : Int32} {v3 : Int32} (h_v0 : isK E v0 8) (h_v1 : isA E v1 9 n1) (hf : b_X9_takeAll_L170 E n1 k170 M v0 v1 v2 v3 = some (M')) : G X E (0, 0) 170 [some (.ref v0), some (.ref v1), some (.int v2), some (.int v3)] [] M := by
  unfold b_X9_takeAll_L170 at hf
  refine G_iload_n h dX9_takeAll_170 (i := 3) rfl rfl rfl ?_
  refine G_sipush h dX9_takeAll_171 ks_176 rfl ?_
  refine G_icmp_ge h dX9_takeAll_174 (tgt := 197) (by decide) rfl (fun c1 => ?_) (fun c1 => ?_)
  · have hf := it_t c1 hf
    exact pwV hR dX9_takeAll_197 hf
  · have hf := it_f c1 hf
    refine G_aload_n h dX9_takeAll_177 (i := 0) rfl rfl rfl ?_
    refine gf_X9_43 h hE dX9_takeAll_178 h_v0 rfl ?_
    refine G_iload_n h dX9_takeAll_181 (i := 3) rfl rfl rfl ?_
    refine G_aload_n h dX9_takeAll_182 (i := 1) rfl rfl rfl ?_
    refine G_iload_n h dX9_takeAll_183 (i := 2) rfl rfl rfl ?_
    refine G_bipush h dX9_takeAll_184 kb_105 rfl ?_
    refine G_iadd h dX9_takeAll_186 rfl ?_
    refine G_iload_n h dX9_takeAll_187 (i := 3) rfl rfl rfl ?_
    refine G_iadd h dX9_takeAll_188 rfl ?_
    obtain ⟨g2, hf⟩ := gd_some hf
    refine G_iald h dX9_takeAll_189 h_v1 g2 (jx := (ix ((v2 + (105 : Int32)) + v3))) rfl rfl ?_
    obtain ⟨g3, hf⟩ := gd_some hf
    refine G_iast h dX9_takeAll_190 ((w_8_20 hE h_v0).2) g3 (jx := (ix v3)) rfl rfl ?_
    refine G_iinc2 h dX9_takeAll_191 rfl ki_1 (by decide) (L' := [some (.ref v0), some (.ref v1), some (.int v2), some (.int (v3 + 1))]) rfl rfl ?_
    refine G_goto h dX9_takeAll_194 (tgt := 170) (by decide) ?_
    exact hk170 _ _ _ _ _ h_v0 h_v1 hf
def f_X9_takeAll_L170 (E : Env1) (n1 : Nat) : Nat → Mem → Nat → Nat → Int32 → Int32 → (Option (Mem))
  | 0 => fun _ _ _ _ _ => none
  | n + 1 => b_X9_takeAll_L170 E n1 (f_X9_takeAll_L170 E n1 n)
theorem o_X9_takeAll_L170 {X : Ctx} {l0 : Launch} {E : Env1} (h : Cx X l0 E RX9 cX9_takeAll none 4 rm_X9_takeAll) (hE : WF E) {M' : Mem} {n1 : Nat} (hR : RetV X E cX9_takeAll M') : ∀ (n : Nat) (M : Mem) (v0 : Nat) (v1 : Nat) (v2 : Int32) (v3 : Int32), isK E v0 8 → isA E v1 9 n1 → f_X9_takeAll_L170 E n1 n M v0 v1 v2 v3 = some (M') → G X E (0, 0) 170 [some (.ref v0), some (.ref v1), some (.int v2), some (.int v3)] [] M := by
  intro n
  induction n with
  | zero =>
    intro _ _ _ _ _ a0 a1 hf
    have h0 : (none : Option (Mem)) = some (M') := hf
    cases h0
  | succ n ih =>
    intro _ _ _ _ _ a0 a1 hf
    exact ob_X9_takeAll_L170 h hE hR  ih a0 a1 hf
def b_X9_takeAll_L128 (E : Env1) (n1 : Nat) (k128 : Mem → Nat → Nat → Int32 → Int32 → (Option (Mem))) (M : Mem) (v0 : Nat) (v1 : Nat) (v2 : Int32) (v3 : Int32) : Option (Mem) :=
  if (24 : Int32) ≤ v3 then (f_X9_takeAll_L170 E n1 FU M v0 v1 v2 (0 : Int32))
  else (
    gd ((v2 + (57 : Int32)) + v3) n1 (gd v3 24 (gd ((v2 + (81 : Int32)) + v3) n1 (nm (wi (wi M (rr E v0 13) (ix v3) (mi M v1 (ix ((v2 + (57 : Int32)) + v3)))) (rr E v0 14) (ix v3) (mi (wi M (rr E v0 13) (ix v3) (mi M v1 (ix ((v2 + (57 : Int32)) + v3)))) v1 (ix ((v2 + (81 : Int32)) + v3)))) fun M5 =>
    k128 M5 v0 v1 v2 (v3 + 1)))))
set_option maxRecDepth 100000 in
set_option maxHeartbeats 4000000 in
theorem ob_X9_takeAll_L128 {X : Ctx} {l0 : Launch} {E : Env1} (h : Cx X l0 E RX9 cX9_takeAll none 4 rm_X9_takeAll) (hE : WF E) {M' : Mem} {n1 : Nat} (hR : RetV X E cX9_takeAll M') {k128 : Mem → Nat → Nat → Int32 → Int32 → (Option (Mem))} (hk128 : ∀ (M : Mem) (v0 : Nat) (v1 : Nat) (v2 : Int32) (v3 : Int32), isK E v0 8 → isA E v1 9 n1 → k128 M v0 v1 v2 v3 = some (M') → G X E (0, 0) 128 [some (.ref v0), some (.ref v1), some (.int v2), some (.int v3)] [] M) {M : Mem} {v0 : Nat} {v1 : Nat} {v2 : Int32} {v3 : Int32} (h_v0 : isK E v0 8) (h_v1 : isA E v1 9 n1) (hf : b_X9_takeAll_L128 E n1 k128 M v0 v1 v2 v3 = some (M')) : G X E (0, 0) 128 [some (.ref v0), some (.ref v1), some (.int v2), some (.int v3)] [] M := by
  unfold b_X9_takeAll_L128 at hf
  refine G_iload_n h dX9_takeAll_128 (i := 3) rfl rfl rfl ?_
  refine G_bipush h dX9_takeAll_129 kb_24 rfl ?_
  refine G_icmp_ge h dX9_takeAll_131 (tgt := 168) (by decide) rfl (fun c1 => ?_) (fun c1 => ?_)
  · have hf := it_t c1 hf
    refine G_iconst h dX9_takeAll_168 ki_0 rfl ?_
    refine G_istore_n h dX9_takeAll_169 (i := 3) rfl (by decide) (L' := [some (.ref v0), some (.ref v1), some (.int v2), some (.int (0 : Int32))]) rfl rfl ?_
    exact o_X9_takeAll_L170 h hE hR  FU _ _ _ _ _ h_v0 h_v1 hf
  · have hf := it_f c1 hf
    refine G_aload_n h dX9_takeAll_134 (i := 0) rfl rfl rfl ?_
    refine gf_X9_31 h hE dX9_takeAll_135 h_v0 rfl ?_
    refine G_iload_n h dX9_takeAll_138 (i := 3) rfl rfl rfl ?_
    refine G_aload_n h dX9_takeAll_139 (i := 1) rfl rfl rfl ?_
    refine G_iload_n h dX9_takeAll_140 (i := 2) rfl rfl rfl ?_
    refine G_bipush h dX9_takeAll_141 kb_57 rfl ?_
    refine G_iadd h dX9_takeAll_143 rfl ?_
    refine G_iload_n h dX9_takeAll_144 (i := 3) rfl rfl rfl ?_
    refine G_iadd h dX9_takeAll_145 rfl ?_
    obtain ⟨g2, hf⟩ := gd_some hf
    refine G_iald h dX9_takeAll_146 h_v1 g2 (jx := (ix ((v2 + (57 : Int32)) + v3))) rfl rfl ?_
    obtain ⟨g3, hf⟩ := gd_some hf
    refine G_iast h dX9_takeAll_147 ((w_8_13 hE h_v0).2) g3 (jx := (ix v3)) rfl rfl ?_
    refine G_aload_n h dX9_takeAll_148 (i := 0) rfl rfl rfl ?_
    refine gf_X9_34 h hE dX9_takeAll_149 h_v0 rfl ?_
    refine G_iload_n h dX9_takeAll_152 (i := 3) rfl rfl rfl ?_
    refine G_aload_n h dX9_takeAll_153 (i := 1) rfl rfl rfl ?_
    refine G_iload_n h dX9_takeAll_154 (i := 2) rfl rfl rfl ?_
    refine G_bipush h dX9_takeAll_155 kb_81 rfl ?_
    refine G_iadd h dX9_takeAll_157 rfl ?_
    refine G_iload_n h dX9_takeAll_158 (i := 3) rfl rfl rfl ?_
    refine G_iadd h dX9_takeAll_159 rfl ?_
    obtain ⟨g4, hf⟩ := gd_some hf
    refine G_iald h dX9_takeAll_160 h_v1 g4 (jx := (ix ((v2 + (81 : Int32)) + v3))) rfl rfl ?_
    refine G_iast h dX9_takeAll_161 ((w_8_14 hE h_v0).2) g3 (jx := (ix v3)) rfl rfl ?_
    refine G_nmM (fun M5 hM5 => ?_)
    have hf := nm_eq hM5 hf
    refine G_iinc2 h dX9_takeAll_162 rfl ki_1 (by decide) (L' := [some (.ref v0), some (.ref v1), some (.int v2), some (.int (v3 + 1))]) rfl rfl ?_
    refine G_goto h dX9_takeAll_165 (tgt := 128) (by decide) ?_
    exact hk128 _ _ _ _ _ h_v0 h_v1 hf
def f_X9_takeAll_L128 (E : Env1) (n1 : Nat) : Nat → Mem → Nat → Nat → Int32 → Int32 → (Option (Mem))
  | 0 => fun _ _ _ _ _ => none
  | n + 1 => b_X9_takeAll_L128 E n1 (f_X9_takeAll_L128 E n1 n)
theorem o_X9_takeAll_L128 {X : Ctx} {l0 : Launch} {E : Env1} (h : Cx X l0 E RX9 cX9_takeAll none 4 rm_X9_takeAll) (hE : WF E) {M' : Mem} {n1 : Nat} (hR : RetV X E cX9_takeAll M') : ∀ (n : Nat) (M : Mem) (v0 : Nat) (v1 : Nat) (v2 : Int32) (v3 : Int32), isK E v0 8 → isA E v1 9 n1 → f_X9_takeAll_L128 E n1 n M v0 v1 v2 v3 = some (M') → G X E (0, 0) 128 [some (.ref v0), some (.ref v1), some (.int v2), some (.int v3)] [] M := by
  intro n
  induction n with
  | zero =>
    intro _ _ _ _ _ a0 a1 hf
    have h0 : (none : Option (Mem)) = some (M') := hf
    cases h0
  | succ n ih =>
    intro _ _ _ _ _ a0 a1 hf
    exact ob_X9_takeAll_L128 h hE hR  ih a0 a1 hf
def b_X9_takeAll_L100 (E : Env1) (n1 : Nat) (k100 : Mem → Nat → Nat → Int32 → Int32 → (Option (Mem))) (M : Mem) (v0 : Nat) (v1 : Nat) (v2 : Int32) (v3 : Int32) : Option (Mem) :=
  if (18 : Int32) ≤ v3 then (f_X9_takeAll_L128 E n1 FU M v0 v1 v2 (0 : Int32))
  else (gd ((v2 + (39 : Int32)) + v3) n1 (gd v3 18 (k100 (wi M (rr E v0 12) (ix v3) (mi M v1 (ix ((v2 + (39 : Int32)) + v3)))) v0 v1 v2 (v3 + 1))))
set_option maxRecDepth 100000 in
set_option maxHeartbeats 4000000 in
theorem ob_X9_takeAll_L100 {X : Ctx} {l0 : Launch} {E : Env1} (h : Cx X l0 E RX9 cX9_takeAll none 4 rm_X9_takeAll) (hE : WF E) {M' : Mem} {n1 : Nat} (hR : RetV X E cX9_takeAll M') {k100 : Mem → Nat → Nat → Int32 → Int32 → (Option (Mem))} (hk100 : ∀ (M : Mem) (v0 : Nat) (v1 : Nat) (v2 : Int32) (v3 : Int32), isK E v0 8 → isA E v1 9 n1 → k100 M v0 v1 v2 v3 = some (M') → G X E (0, 0) 100 [some (.ref v0), some (.ref v1), some (.int v2), some (.int v3)] [] M) {M : Mem} {v0 : Nat} {v1 : Nat} {v2 : Int32} {v3 : Int32} (h_v0 : isK E v0 8) (h_v1 : isA E v1 9 n1) (hf : b_X9_takeAll_L100 E n1 k100 M v0 v1 v2 v3 = some (M')) : G X E (0, 0) 100 [some (.ref v0), some (.ref v1), some (.int v2), some (.int v3)] [] M := by
  unfold b_X9_takeAll_L100 at hf
  refine G_iload_n h dX9_takeAll_100 (i := 3) rfl rfl rfl ?_
  refine G_bipush h dX9_takeAll_101 kb_18 rfl ?_
  refine G_icmp_ge h dX9_takeAll_103 (tgt := 126) (by decide) rfl (fun c1 => ?_) (fun c1 => ?_)
  · have hf := it_t c1 hf
    refine G_iconst h dX9_takeAll_126 ki_0 rfl ?_
    refine G_istore_n h dX9_takeAll_127 (i := 3) rfl (by decide) (L' := [some (.ref v0), some (.ref v1), some (.int v2), some (.int (0 : Int32))]) rfl rfl ?_
    exact o_X9_takeAll_L128 h hE hR  FU _ _ _ _ _ h_v0 h_v1 hf
  · have hf := it_f c1 hf
    refine G_aload_n h dX9_takeAll_106 (i := 0) rfl rfl rfl ?_
    refine gf_X9_28 h hE dX9_takeAll_107 h_v0 rfl ?_
    refine G_iload_n h dX9_takeAll_110 (i := 3) rfl rfl rfl ?_
    refine G_aload_n h dX9_takeAll_111 (i := 1) rfl rfl rfl ?_
    refine G_iload_n h dX9_takeAll_112 (i := 2) rfl rfl rfl ?_
    refine G_bipush h dX9_takeAll_113 kb_39 rfl ?_
    refine G_iadd h dX9_takeAll_115 rfl ?_
    refine G_iload_n h dX9_takeAll_116 (i := 3) rfl rfl rfl ?_
    refine G_iadd h dX9_takeAll_117 rfl ?_
    obtain ⟨g2, hf⟩ := gd_some hf
    refine G_iald h dX9_takeAll_118 h_v1 g2 (jx := (ix ((v2 + (39 : Int32)) + v3))) rfl rfl ?_
    obtain ⟨g3, hf⟩ := gd_some hf
    refine G_iast h dX9_takeAll_119 ((w_8_12 hE h_v0).2) g3 (jx := (ix v3)) rfl rfl ?_
    refine G_iinc2 h dX9_takeAll_120 rfl ki_1 (by decide) (L' := [some (.ref v0), some (.ref v1), some (.int v2), some (.int (v3 + 1))]) rfl rfl ?_
    refine G_goto h dX9_takeAll_123 (tgt := 100) (by decide) ?_
    exact hk100 _ _ _ _ _ h_v0 h_v1 hf
def f_X9_takeAll_L100 (E : Env1) (n1 : Nat) : Nat → Mem → Nat → Nat → Int32 → Int32 → (Option (Mem))
  | 0 => fun _ _ _ _ _ => none
  | n + 1 => b_X9_takeAll_L100 E n1 (f_X9_takeAll_L100 E n1 n)
theorem o_X9_takeAll_L100 {X : Ctx} {l0 : Launch} {E : Env1} (h : Cx X l0 E RX9 cX9_takeAll none 4 rm_X9_takeAll) (hE : WF E) {M' : Mem} {n1 : Nat} (hR : RetV X E cX9_takeAll M') : ∀ (n : Nat) (M : Mem) (v0 : Nat) (v1 : Nat) (v2 : Int32) (v3 : Int32), isK E v0 8 → isA E v1 9 n1 → f_X9_takeAll_L100 E n1 n M v0 v1 v2 v3 = some (M') → G X E (0, 0) 100 [some (.ref v0), some (.ref v1), some (.int v2), some (.int v3)] [] M := by
  intro n
  induction n with
  | zero =>
    intro _ _ _ _ _ a0 a1 hf
    have h0 : (none : Option (Mem)) = some (M') := hf
    cases h0
  | succ n ih =>
    intro _ _ _ _ _ a0 a1 hf
    exact ob_X9_takeAll_L100 h hE hR  ih a0 a1 hf
def b_X9_takeAll_L58 (E : Env1) (n1 : Nat) (k58 : Mem → Nat → Nat → Int32 → Int32 → (Option (Mem))) (M : Mem) (v0 : Nat) (v1 : Nat) (v2 : Int32) (v3 : Int32) : Option (Mem) :=
  if (6 : Int32) ≤ v3 then (f_X9_takeAll_L100 E n1 FU M v0 v1 v2 (0 : Int32))
  else (
    gd ((v2 + (27 : Int32)) + v3) n1 (gd v3 6 (gd ((v2 + (33 : Int32)) + v3) n1 (nm (wi (wi M (rr E v0 7) (ix v3) (mi M v1 (ix ((v2 + (27 : Int32)) + v3)))) (rr E v0 8) (ix v3) (mi (wi M (rr E v0 7) (ix v3) (mi M v1 (ix ((v2 + (27 : Int32)) + v3)))) v1 (ix ((v2 + (33 : Int32)) + v3)))) fun M5 =>
    k58 M5 v0 v1 v2 (v3 + 1)))))
set_option maxRecDepth 100000 in
set_option maxHeartbeats 4000000 in
theorem ob_X9_takeAll_L58 {X : Ctx} {l0 : Launch} {E : Env1} (h : Cx X l0 E RX9 cX9_takeAll none 4 rm_X9_takeAll) (hE : WF E) {M' : Mem} {n1 : Nat} (hR : RetV X E cX9_takeAll M') {k58 : Mem → Nat → Nat → Int32 → Int32 → (Option (Mem))} (hk58 : ∀ (M : Mem) (v0 : Nat) (v1 : Nat) (v2 : Int32) (v3 : Int32), isK E v0 8 → isA E v1 9 n1 → k58 M v0 v1 v2 v3 = some (M') → G X E (0, 0) 58 [some (.ref v0), some (.ref v1), some (.int v2), some (.int v3)] [] M) {M : Mem} {v0 : Nat} {v1 : Nat} {v2 : Int32} {v3 : Int32} (h_v0 : isK E v0 8) (h_v1 : isA E v1 9 n1) (hf : b_X9_takeAll_L58 E n1 k58 M v0 v1 v2 v3 = some (M')) : G X E (0, 0) 58 [some (.ref v0), some (.ref v1), some (.int v2), some (.int v3)] [] M := by
  unfold b_X9_takeAll_L58 at hf
  refine G_iload_n h dX9_takeAll_58 (i := 3) rfl rfl rfl ?_
  refine G_bipush h dX9_takeAll_59 kb_6 rfl ?_
  refine G_icmp_ge h dX9_takeAll_61 (tgt := 98) (by decide) rfl (fun c1 => ?_) (fun c1 => ?_)
  · have hf := it_t c1 hf
    refine G_iconst h dX9_takeAll_98 ki_0 rfl ?_
    refine G_istore_n h dX9_takeAll_99 (i := 3) rfl (by decide) (L' := [some (.ref v0), some (.ref v1), some (.int v2), some (.int (0 : Int32))]) rfl rfl ?_
    exact o_X9_takeAll_L100 h hE hR  FU _ _ _ _ _ h_v0 h_v1 hf
  · have hf := it_f c1 hf
    refine G_aload_n h dX9_takeAll_64 (i := 0) rfl rfl rfl ?_
    refine gf_X9_13 h hE dX9_takeAll_65 h_v0 rfl ?_
    refine G_iload_n h dX9_takeAll_68 (i := 3) rfl rfl rfl ?_
    refine G_aload_n h dX9_takeAll_69 (i := 1) rfl rfl rfl ?_
    refine G_iload_n h dX9_takeAll_70 (i := 2) rfl rfl rfl ?_
    refine G_bipush h dX9_takeAll_71 kb_27 rfl ?_
    refine G_iadd h dX9_takeAll_73 rfl ?_
    refine G_iload_n h dX9_takeAll_74 (i := 3) rfl rfl rfl ?_
    refine G_iadd h dX9_takeAll_75 rfl ?_
    obtain ⟨g2, hf⟩ := gd_some hf
    refine G_iald h dX9_takeAll_76 h_v1 g2 (jx := (ix ((v2 + (27 : Int32)) + v3))) rfl rfl ?_
    obtain ⟨g3, hf⟩ := gd_some hf
    refine G_iast h dX9_takeAll_77 ((w_8_7 hE h_v0).2) g3 (jx := (ix v3)) rfl rfl ?_
    refine G_aload_n h dX9_takeAll_78 (i := 0) rfl rfl rfl ?_
    refine gf_X9_16 h hE dX9_takeAll_79 h_v0 rfl ?_
    refine G_iload_n h dX9_takeAll_82 (i := 3) rfl rfl rfl ?_
    refine G_aload_n h dX9_takeAll_83 (i := 1) rfl rfl rfl ?_
    refine G_iload_n h dX9_takeAll_84 (i := 2) rfl rfl rfl ?_
    refine G_bipush h dX9_takeAll_85 kb_33 rfl ?_
    refine G_iadd h dX9_takeAll_87 rfl ?_
    refine G_iload_n h dX9_takeAll_88 (i := 3) rfl rfl rfl ?_
    refine G_iadd h dX9_takeAll_89 rfl ?_
    obtain ⟨g4, hf⟩ := gd_some hf
    refine G_iald h dX9_takeAll_90 h_v1 g4 (jx := (ix ((v2 + (33 : Int32)) + v3))) rfl rfl ?_
    refine G_iast h dX9_takeAll_91 ((w_8_8 hE h_v0).2) g3 (jx := (ix v3)) rfl rfl ?_
    refine G_nmM (fun M5 hM5 => ?_)
    have hf := nm_eq hM5 hf
    refine G_iinc2 h dX9_takeAll_92 rfl ki_1 (by decide) (L' := [some (.ref v0), some (.ref v1), some (.int v2), some (.int (v3 + 1))]) rfl rfl ?_
    refine G_goto h dX9_takeAll_95 (tgt := 58) (by decide) ?_
    exact hk58 _ _ _ _ _ h_v0 h_v1 hf
def f_X9_takeAll_L58 (E : Env1) (n1 : Nat) : Nat → Mem → Nat → Nat → Int32 → Int32 → (Option (Mem))
  | 0 => fun _ _ _ _ _ => none
  | n + 1 => b_X9_takeAll_L58 E n1 (f_X9_takeAll_L58 E n1 n)
theorem o_X9_takeAll_L58 {X : Ctx} {l0 : Launch} {E : Env1} (h : Cx X l0 E RX9 cX9_takeAll none 4 rm_X9_takeAll) (hE : WF E) {M' : Mem} {n1 : Nat} (hR : RetV X E cX9_takeAll M') : ∀ (n : Nat) (M : Mem) (v0 : Nat) (v1 : Nat) (v2 : Int32) (v3 : Int32), isK E v0 8 → isA E v1 9 n1 → f_X9_takeAll_L58 E n1 n M v0 v1 v2 v3 = some (M') → G X E (0, 0) 58 [some (.ref v0), some (.ref v1), some (.int v2), some (.int v3)] [] M := by
  intro n
  induction n with
  | zero =>
    intro _ _ _ _ _ a0 a1 hf
    have h0 : (none : Option (Mem)) = some (M') := hf
    cases h0
  | succ n ih =>
    intro _ _ _ _ _ a0 a1 hf
    exact ob_X9_takeAll_L58 h hE hR  ih a0 a1 hf
def f_X9_takeAll (E : Env1) (n1 : Nat) (M : Mem) (v0 : Nat) (v1 : Nat) (v2 : Int32) : Option (Mem) :=
  (f_X9_takes E n1 M v0 v1 v2).bind fun x1 =>
  gd (v2 + (22 : Int32)) n1 (gd (v2 + (23 : Int32)) n1 (nm (wi (wi x1 v0 1 (mi x1 v1 (ix (v2 + (22 : Int32))))) v0 4 (mi (wi x1 v0 1 (mi x1 v1 (ix (v2 + (22 : Int32))))) v1 (ix (v2 + (23 : Int32))))) fun M4 =>
  gd (v2 + (24 : Int32)) n1 (gd (v2 + (25 : Int32)) n1 (nm (wi (wi M4 v0 5 (mi M4 v1 (ix (v2 + (24 : Int32))))) v0 6 (mi (wi M4 v0 5 (mi M4 v1 (ix (v2 + (24 : Int32))))) v1 (ix (v2 + (25 : Int32))))) fun M7 =>
  gd (v2 + (26 : Int32)) n1 (f_X9_takeAll_L58 E n1 FU (wi M7 v0 21 (mi M7 v1 (ix (v2 + (26 : Int32))))) v0 v1 v2 (0 : Int32))))))
set_option maxRecDepth 100000 in
set_option maxHeartbeats 4000000 in
theorem ok_X9_takeAll {E : Env1} (hE : WF E) (l0 : Launch) {M : Mem} {M' : Mem} {n1 : Nat} {v0 : Nat} {v1 : Nat} {v2 : Int32} (h0 : isK E v0 8) (h1 : isA E v1 9 n1) (hf : f_X9_takeAll E n1 M v0 v1 v2 = some (M')) : Met l0 yX9_takeAll (wsA yX9_takeAll cX9_takeAll 4 none) rm_X9_takeAll (CP E M [.ref v0, .ref v1, .int v2]) (CQv E M') 0 0 (eA E) := by
  unfold f_X9_takeAll at hf
  refine mtV l0 (by decide +kernel) (Nat.le_of_ble_eq_true rfl) (L0 := [some (.ref v0), some (.ref v1), some (.int v2), none]) rfl (fun X h hR => ?_)
  refine G_aload_n h dX9_takeAll_0 (i := 0) rfl rfl rfl ?_
  refine G_aload_n h dX9_takeAll_1 (i := 1) rfl rfl rfl ?_
  refine G_iload_n h dX9_takeAll_2 (i := 2) rfl rfl rfl ?_
  obtain ⟨x1, hx1, hf⟩ := bd hf
  refine cl_X9_241 h (ok_X9_takes hE _ h0 h1 hx1) dX9_takeAll_3 h0 (as := [.ref v1, .int v2]) rfl rfl ⟨rfl, rfl, Nat.le_of_ble_eq_true rfl, Nat.le_of_ble_eq_true rfl⟩ rfl (Nat.le_of_ble_eq_true rfl) ?_
  refine G_aload_n h dX9_takeAll_6 (i := 0) rfl rfl rfl ?_
  refine G_aload_n h dX9_takeAll_7 (i := 1) rfl rfl rfl ?_
  refine G_iload_n h dX9_takeAll_8 (i := 2) rfl rfl rfl ?_
  refine G_bipush h dX9_takeAll_9 kb_22 rfl ?_
  refine G_iadd h dX9_takeAll_11 rfl ?_
  obtain ⟨g2, hf⟩ := gd_some hf
  refine G_iald h dX9_takeAll_12 h1 g2 (jx := (ix (v2 + (22 : Int32)))) rfl rfl ?_
  refine pf_X9_69 h dX9_takeAll_13 h0 rfl ?_
  refine G_aload_n h dX9_takeAll_16 (i := 0) rfl rfl rfl ?_
  refine G_aload_n h dX9_takeAll_17 (i := 1) rfl rfl rfl ?_
  refine G_iload_n h dX9_takeAll_18 (i := 2) rfl rfl rfl ?_
  refine G_bipush h dX9_takeAll_19 kb_23 rfl ?_
  refine G_iadd h dX9_takeAll_21 rfl ?_
  obtain ⟨g3, hf⟩ := gd_some hf
  refine G_iald h dX9_takeAll_22 h1 g3 (jx := (ix (v2 + (23 : Int32)))) rfl rfl ?_
  refine pf_X9_79 h dX9_takeAll_23 h0 rfl ?_
  refine G_nmM (fun M4 hM4 => ?_)
  have hf := nm_eq hM4 hf
  refine G_aload_n h dX9_takeAll_26 (i := 0) rfl rfl rfl ?_
  refine G_aload_n h dX9_takeAll_27 (i := 1) rfl rfl rfl ?_
  refine G_iload_n h dX9_takeAll_28 (i := 2) rfl rfl rfl ?_
  refine G_bipush h dX9_takeAll_29 kb_24 rfl ?_
  refine G_iadd h dX9_takeAll_31 rfl ?_
  obtain ⟨g5, hf⟩ := gd_some hf
  refine G_iald h dX9_takeAll_32 h1 g5 (jx := (ix (v2 + (24 : Int32)))) rfl rfl ?_
  refine pf_X9_82 h dX9_takeAll_33 h0 rfl ?_
  refine G_aload_n h dX9_takeAll_36 (i := 0) rfl rfl rfl ?_
  refine G_aload_n h dX9_takeAll_37 (i := 1) rfl rfl rfl ?_
  refine G_iload_n h dX9_takeAll_38 (i := 2) rfl rfl rfl ?_
  refine G_bipush h dX9_takeAll_39 kb_25 rfl ?_
  refine G_iadd h dX9_takeAll_41 rfl ?_
  obtain ⟨g6, hf⟩ := gd_some hf
  refine G_iald h dX9_takeAll_42 h1 g6 (jx := (ix (v2 + (25 : Int32)))) rfl rfl ?_
  refine pf_X9_85 h dX9_takeAll_43 h0 rfl ?_
  refine G_nmM (fun M7 hM7 => ?_)
  have hf := nm_eq hM7 hf
  refine G_aload_n h dX9_takeAll_46 (i := 0) rfl rfl rfl ?_
  refine G_aload_n h dX9_takeAll_47 (i := 1) rfl rfl rfl ?_
  refine G_iload_n h dX9_takeAll_48 (i := 2) rfl rfl rfl ?_
  refine G_bipush h dX9_takeAll_49 kb_26 rfl ?_
  refine G_iadd h dX9_takeAll_51 rfl ?_
  obtain ⟨g8, hf⟩ := gd_some hf
  refine G_iald h dX9_takeAll_52 h1 g8 (jx := (ix (v2 + (26 : Int32)))) rfl rfl ?_
  refine pf_X9_88 h dX9_takeAll_53 h0 rfl ?_
  refine G_iconst h dX9_takeAll_56 ki_0 rfl ?_
  refine G_istore_n h dX9_takeAll_57 (i := 3) rfl (by decide) (L' := [some (.ref v0), some (.ref v1), some (.int v2), some (.int (0 : Int32))]) rfl rfl ?_
  exact o_X9_takeAll_L58 h hE hR  FU _ _ _ _ _ h0 h1 hf
def rm_X9_from : Room := { frames := 2, cells := 0, slots := 0, locals := 46 }
def f_X9_from (E : Env1) (M : Mem) (v0 : Nat) (v1 : Int32) : Option (Int32 × Mem) :=
  if (f_X9_in E M v1 (0 : Int32) (1 : Int32)) = 0 then (
    nm (f_X9_bad E M v0) fun x7 =>
    some (x7.1, x7.2))
  else (
    gd v1 2 (if (mi M (rr E v0 28) (ix v1)) = 0 then (
      nm (f_X9_no E M v0) fun x6 =>
      some (x6.1, x6.2))
    else (
      (f_X9_takeAll E 600 M v0 (rr E v0 27) ((300 : Int32) * v1)).bind fun x5 =>
      some ((1 : Int32), x5))))
set_option maxRecDepth 100000 in
set_option maxHeartbeats 4000000 in
theorem ok_X9_from {E : Env1} (hE : WF E) (l0 : Launch) {M : Mem} {M' : Mem} {v0 : Nat} {v1 : Int32} {r : Int32} (h0 : isK E v0 8) (hf : f_X9_from E M v0 v1 = some (r, M')) : Met l0 yX9_from (wsA yX9_from cX9_from 2 (some .int)) rm_X9_from (CP E M [.ref v0, .int v1]) (CQi E r M') 0 0 (eA E) := by
  unfold f_X9_from at hf
  refine mtI l0 (by decide +kernel) (Nat.le_of_ble_eq_true rfl) (L0 := [some (.ref v0), some (.int v1)]) rfl (fun X h hR => ?_)
  refine G_iload_n h dX9_from_0 (i := 1) rfl rfl rfl ?_
  refine G_iconst h dX9_from_1 ki_0 rfl ?_
  refine G_iconst h dX9_from_2 ki_1 rfl ?_
  refine cl_X9_91 h (ok_X9_in hE _  (r := f_X9_in E M v1 (0 : Int32) (1 : Int32)) rfl) dX9_from_3 (as := [.int v1, .int (0 : Int32), .int (1 : Int32)]) rfl rfl ⟨rfl, rfl, Nat.le_of_ble_eq_true rfl, Nat.le_of_ble_eq_true rfl⟩ rfl (Nat.le_of_ble_eq_true rfl) (fun z1 => ?_)
  refine G_if_ne h dX9_from_6 (tgt := 14) (by decide) rfl (fun c2 => ?_) (fun c2 => ?_)
  · have hf := it_f c2 hf
    refine G_aload_n h dX9_from_14 (i := 0) rfl rfl rfl ?_
    refine gf_X9_63 h hE dX9_from_15 h0 rfl ?_
    refine G_iload_n h dX9_from_18 (i := 1) rfl rfl rfl ?_
    obtain ⟨g3, hf⟩ := gd_some hf
    refine G_iald h dX9_from_19 ((w_8_28 hE h0).2) g3 (jx := (ix v1)) rfl rfl ?_
    refine G_if_ne h dX9_from_20 (tgt := 28) (by decide) rfl (fun c4 => ?_) (fun c4 => ?_)
    · have hf := it_f c4 hf
      refine G_aload_n h dX9_from_28 (i := 0) rfl rfl rfl ?_
      refine G_aload_n h dX9_from_29 (i := 0) rfl rfl rfl ?_
      refine gf_X9_60 h hE dX9_from_30 h0 rfl ?_
      refine G_sipush h dX9_from_33 ks_300 rfl ?_
      refine G_iload_n h dX9_from_36 (i := 1) rfl rfl rfl ?_
      refine G_imul h dX9_from_37 rfl ?_
      obtain ⟨x5, hx5, hf⟩ := bd hf
      refine cl_X9_176 h (ok_X9_takeAll hE _ h0 ((w_8_27 hE h0).2) hx5) dX9_from_38 h0 (as := [.ref (rr E v0 27), .int ((300 : Int32) * v1)]) rfl rfl ⟨rfl, rfl, Nat.le_of_ble_eq_true rfl, Nat.le_of_ble_eq_true rfl⟩ rfl (Nat.le_of_ble_eq_true rfl) ?_
      refine G_iconst h dX9_from_41 ki_1 rfl ?_
      exact pwI hR dX9_from_42 hf
    · have hf := it_t c4 hf
      refine G_aload_n h dX9_from_23 (i := 0) rfl rfl rfl ?_
      obtain ⟨x6, hx6⟩ : ∃ x, x = f_X9_no E M v0 := ⟨_, rfl⟩
      have hf := nm_eq hx6 hf
      refine cl_X9_222 h (ok_X9_no hE _ h0 hx6.symm) dX9_from_24 h0 (as := []) rfl rfl ⟨rfl, rfl, Nat.le_of_ble_eq_true rfl, Nat.le_of_ble_eq_true rfl⟩ rfl (Nat.le_of_ble_eq_true rfl) ?_
      exact pwI hR dX9_from_27 hf
  · have hf := it_t c2 hf
    refine G_aload_n h dX9_from_9 (i := 0) rfl rfl rfl ?_
    obtain ⟨x7, hx7⟩ : ∃ x, x = f_X9_bad E M v0 := ⟨_, rfl⟩
    have hf := nm_eq hx7 hf
    refine cl_X9_95 h (ok_X9_bad hE _ h0 hx7.symm) dX9_from_10 h0 (as := []) rfl rfl ⟨rfl, rfl, Nat.le_of_ble_eq_true rfl, Nat.le_of_ble_eq_true rfl⟩ rfl (Nat.le_of_ble_eq_true rfl) ?_
    exact pwI hR dX9_from_13 hf
def rm_X9_full : Room := { frames := 0, cells := 0, slots := 0, locals := 0 }
def f_X9_full (E : Env1) (M : Mem) (v0 : Nat) : Int32 × Mem :=
  ((-4 : Int32), wi M (rr E v0 0) 2 ((mi M (rr E v0 0) 2) + (1 : Int32)))
set_option maxRecDepth 100000 in
set_option maxHeartbeats 4000000 in
theorem ok_X9_full {E : Env1} (hE : WF E) (l0 : Launch) {M : Mem} {M' : Mem} {v0 : Nat} {r : Int32} (h0 : isK E v0 8) (hf : f_X9_full E M v0 = (r, M')) : Met l0 yX9_full (wsA yX9_full cX9_full 1 (some .int)) rm_X9_full (CP E M [.ref v0]) (CQi E r M') 0 0 (eA E) := by
  unfold f_X9_full at hf
  refine mtI l0 (by decide +kernel) (Nat.le_of_ble_eq_true rfl) (L0 := [some (.ref v0)]) rfl (fun X h hR => ?_)
  refine G_aload_n h dX9_full_0 (i := 0) rfl rfl rfl ?_
  refine gf_X9_1 h hE dX9_full_1 h0 rfl ?_
  refine G_iconst h dX9_full_4 ki_2 rfl ?_
  refine G_dup2 h dX9_full_5 rfl rfl rfl ?_
  refine G_iald h dX9_full_6 ((w_8_0 hE h0).2) (vi_lit (by decide)) (jx := 2) (by decide) rfl ?_
  refine G_iconst h dX9_full_7 ki_1 rfl ?_
  refine G_iadd h dX9_full_8 rfl ?_
  refine G_iast h dX9_full_9 ((w_8_0 hE h0).2) (vi_lit (by decide)) (jx := 2) (by decide) rfl ?_
  refine G_bipush h dX9_full_10 kb_m4 rfl ?_
  exact twI hR dX9_full_12 hf
def rm_X9_gets : Room := { frames := 3, cells := 0, slots := 0, locals := 67 }
def f_X9_gets_L116 (E : Env1) (M : Mem) (v9 : Int32) (s0 : Int32) : Option (Int32) :=
  some ((if v9 = 0 then (0 : Int32) else (4 : Int32)) - s0)
set_option maxRecDepth 100000 in
set_option maxHeartbeats 4000000 in
theorem o_X9_gets_L116 {X : Ctx} {l0 : Launch} {E : Env1} (h : Cx X l0 E RX9 cX9_gets (some .int) 11 rm_X9_gets) (hE : WF E) {M : Mem} {r : Int32} (hR : RetI X E cX9_gets r M) {v9 : Int32} {s0 : Int32} (z_v9 : v9 = 0 ∨ v9 = 1) (hf : f_X9_gets_L116 E M v9 s0 = some r) : G X E (0, 0) 116 [none, none, none, none, none, none, none, none, none, some (.int v9), none] [.int s0] M := by
  unfold f_X9_gets_L116 at hf
  refine G_istore h dX9_gets_116  (by decide) (L' := [none, none, none, none, none, none, none, none, none, some (.int v9), some (.int s0)]) rfl rfl ?_
  refine G_iload h dX9_gets_118 rfl rfl ?_
  have hJ : G X E (0, 0) 128 [none, none, none, none, none, none, none, none, none, some (.int v9), some (.int s0)] [.int (if v9 = 0 then (0 : Int32) else (4 : Int32))] M := by
    refine G_iload h dX9_gets_128 rfl rfl ?_
    refine G_isub h dX9_gets_130 rfl ?_
    exact roI hR dX9_gets_131 hf
  refine G_if_eq h dX9_gets_120 (tgt := 127) (by decide) rfl (fun c1 => ?_) (fun c1 => ?_)
  · refine G_iconst h dX9_gets_127 ki_0 rfl ?_
    exact G_ifp c1 hJ
  · refine G_iconst h dX9_gets_123 ki_4 rfl ?_
    refine G_goto h dX9_gets_124 (tgt := 128) (by decide) ?_
    exact G_ifn c1 hJ
def f_X9_gets_L82 (E : Env1) (M : Mem) (v0 : Nat) (v1 : Int32) (v2 : Int32) (v5 : Int32) (v6 : Int32) (v7 : Int32) (s0 : Int32) : Option (Int32) :=
  if (f_X9_has E M v5 v6) = 0 then (f_X9_gets_L116 E M s0 (0 : Int32))
  else (
    (f_X9_worth E M v0 (if v6 = 0 then v1 else v2) v7).bind fun x4 =>
    f_X9_gets_L116 E M s0 ((1 : Int32) + x4))
set_option maxRecDepth 100000 in
set_option maxHeartbeats 4000000 in
theorem o_X9_gets_L82 {X : Ctx} {l0 : Launch} {E : Env1} (h : Cx X l0 E RX9 cX9_gets (some .int) 11 rm_X9_gets) (hE : WF E) {M : Mem} {r : Int32} (hR : RetI X E cX9_gets r M) {v0 : Nat} {v1 : Int32} {v2 : Int32} {v5 : Int32} {v6 : Int32} {v7 : Int32} {s0 : Int32} (h_v0 : isK E v0 8) (z_s0 : s0 = 0 ∨ s0 = 1) (hf : f_X9_gets_L82 E M v0 v1 v2 v5 v6 v7 s0 = some r) : G X E (0, 0) 82 [some (.ref v0), some (.int v1), some (.int v2), none, none, some (.int v5), some (.int v6), some (.int v7), none, none, none] [.int s0] M := by
  unfold f_X9_gets_L82 at hf
  refine G_istore h dX9_gets_82  (by decide) (L' := [some (.ref v0), some (.int v1), some (.int v2), none, none, some (.int v5), some (.int v6), some (.int v7), none, some (.int s0), none]) rfl rfl ?_
  refine G_iload h dX9_gets_84 rfl rfl ?_
  refine G_iload h dX9_gets_86 rfl rfl ?_
  refine cl_X9_189 h (ok_X9_has hE _  (r := f_X9_has E M v5 v6) rfl) dX9_gets_88 (as := [.int v5, .int v6]) rfl rfl ⟨rfl, rfl, Nat.le_of_ble_eq_true rfl, Nat.le_of_ble_eq_true rfl⟩ rfl (Nat.le_of_ble_eq_true rfl) (fun z1 => ?_)
  refine G_if_eq h dX9_gets_91 (tgt := 115) (by decide) rfl (fun c2 => ?_) (fun c2 => ?_)
  · have hf := it_t c2 hf
    refine G_iconst h dX9_gets_115 ki_0 rfl ?_
    refine G_mskL [false, false, false, false, false, false, false, false, false, true, false] (L' := [none, none, none, none, none, none, none, none, none, some (.int s0), none]) rfl ?_
    exact o_X9_gets_L116 h hE hR z_s0 hf
  · have hf := it_f c2 hf
    refine G_iconst h dX9_gets_94 ki_1 rfl ?_
    refine G_aload_n h dX9_gets_95 (i := 0) rfl rfl rfl ?_
    refine G_iload h dX9_gets_96 rfl rfl ?_
    have hJ : G X E (0, 0) 106 [some (.ref v0), some (.int v1), some (.int v2), none, none, some (.int v5), some (.int v6), some (.int v7), none, some (.int s0), none] [.int (if v6 = 0 then v1 else v2), .ref v0, .int (1 : Int32)] M := by
      refine G_iload h dX9_gets_106 rfl rfl ?_
      obtain ⟨x4, hx4, hf⟩ := bd hf
      refine cl_X9_192 h (ok_X9_worth hE _ h_v0 hx4) dX9_gets_108 h_v0 (as := [.int (if v6 = 0 then v1 else v2), .int v7]) rfl rfl ⟨rfl, rfl, Nat.le_of_ble_eq_true rfl, Nat.le_of_ble_eq_true rfl⟩ rfl (Nat.le_of_ble_eq_true rfl) ?_
      refine G_iadd h dX9_gets_111 rfl ?_
      refine G_goto h dX9_gets_112 (tgt := 116) (by decide) ?_
      refine G_mskL [false, false, false, false, false, false, false, false, false, true, false] (L' := [none, none, none, none, none, none, none, none, none, some (.int s0), none]) rfl ?_
      exact o_X9_gets_L116 h hE hR z_s0 hf
    refine G_if_ne h dX9_gets_98 (tgt := 105) (by decide) rfl (fun c3 => ?_) (fun c3 => ?_)
    · refine G_iload_n h dX9_gets_105 (i := 2) rfl rfl rfl ?_
      exact G_ifn c3 hJ
    · refine G_iload_n h dX9_gets_101 (i := 1) rfl rfl rfl ?_
      refine G_goto h dX9_gets_102 (tgt := 106) (by decide) ?_
      exact G_ifp c3 hJ
def f_X9_gets_L46 (E : Env1) (M : Mem) (v0 : Nat) (v1 : Int32) (v2 : Int32) (v3 : Int32) (v4 : Int32) (v5 : Int32) (v6 : Int32) (v7 : Int32) (s0 : Int32) (s1 : Int32) : Option (Int32) :=
  gd v3 6 (if (f_X9_has E M (mi M (rr E v0 10) (ix v3)) v4) = 0 then (
    (f_X9_wants E M v0 v3 v4 v7).bind fun x4 =>
    if (s1 + s0) < x4 then (f_X9_gets_L82 E M v0 v1 v2 v5 v6 v7 (0 : Int32))
    else (f_X9_gets_L82 E M v0 v1 v2 v5 v6 v7 (1 : Int32)))
  else (f_X9_gets_L82 E M v0 v1 v2 v5 v6 v7 (1 : Int32)))
set_option maxRecDepth 100000 in
set_option maxHeartbeats 4000000 in
theorem o_X9_gets_L46 {X : Ctx} {l0 : Launch} {E : Env1} (h : Cx X l0 E RX9 cX9_gets (some .int) 11 rm_X9_gets) (hE : WF E) {M : Mem} {r : Int32} (hR : RetI X E cX9_gets r M) {v0 : Nat} {v1 : Int32} {v2 : Int32} {v3 : Int32} {v4 : Int32} {v5 : Int32} {v6 : Int32} {v7 : Int32} {s0 : Int32} {s1 : Int32} (h_v0 : isK E v0 8) (hf : f_X9_gets_L46 E M v0 v1 v2 v3 v4 v5 v6 v7 s0 s1 = some r) : G X E (0, 0) 46 [some (.ref v0), some (.int v1), some (.int v2), some (.int v3), some (.int v4), some (.int v5), some (.int v6), some (.int v7), none, none, none] [.int s0, .int s1] M := by
  unfold f_X9_gets_L46 at hf
  refine G_iadd h dX9_gets_46 rfl ?_
  refine G_istore h dX9_gets_47  (by decide) (L' := [some (.ref v0), some (.int v1), some (.int v2), some (.int v3), some (.int v4), some (.int v5), some (.int v6), some (.int v7), some (.int (s1 + s0)), none, none]) rfl rfl ?_
  refine G_aload_n h dX9_gets_49 (i := 0) rfl rfl rfl ?_
  refine gf_X9_22 h hE dX9_gets_50 h_v0 rfl ?_
  refine G_iload_n h dX9_gets_53 (i := 3) rfl rfl rfl ?_
  obtain ⟨g1, hf⟩ := gd_some hf
  refine G_iald h dX9_gets_54 ((w_8_10 hE h_v0).2) g1 (jx := (ix v3)) rfl rfl ?_
  refine G_iload h dX9_gets_55 rfl rfl ?_
  refine cl_X9_189 h (ok_X9_has hE _  (r := f_X9_has E M (mi M (rr E v0 10) (ix v3)) v4) rfl) dX9_gets_57 (as := [.int (mi M (rr E v0 10) (ix v3)), .int v4]) rfl rfl ⟨rfl, rfl, Nat.le_of_ble_eq_true rfl, Nat.le_of_ble_eq_true rfl⟩ rfl (Nat.le_of_ble_eq_true rfl) (fun z2 => ?_)
  refine G_if_ne h dX9_gets_60 (tgt := 77) (by decide) rfl (fun c3 => ?_) (fun c3 => ?_)
  · have hf := it_f c3 hf
    refine G_iconst h dX9_gets_77 ki_1 rfl ?_
    refine G_goto h dX9_gets_78 (tgt := 82) (by decide) ?_
    refine G_mskL [true, true, true, false, false, true, true, true, false, false, false] (L' := [some (.ref v0), some (.int v1), some (.int v2), none, none, some (.int v5), some (.int v6), some (.int v7), none, none, none]) rfl ?_
    exact o_X9_gets_L82 h hE hR h_v0 (Or.inr rfl) hf
  · have hf := it_t c3 hf
    refine G_iload h dX9_gets_63 rfl rfl ?_
    refine G_aload_n h dX9_gets_65 (i := 0) rfl rfl rfl ?_
    refine G_iload_n h dX9_gets_66 (i := 3) rfl rfl rfl ?_
    refine G_iload h dX9_gets_67 rfl rfl ?_
    refine G_iload h dX9_gets_69 rfl rfl ?_
    obtain ⟨x4, hx4, hf⟩ := bd hf
    refine cl_X9_198 h (ok_X9_wants hE _ h_v0 hx4) dX9_gets_71 h_v0 (as := [.int v3, .int v4, .int v7]) rfl rfl ⟨rfl, rfl, Nat.le_of_ble_eq_true rfl, Nat.le_of_ble_eq_true rfl⟩ rfl (Nat.le_of_ble_eq_true rfl) ?_
    refine G_icmp_lt h dX9_gets_74 (tgt := 81) (by decide) rfl (fun c5 => ?_) (fun c5 => ?_)
    · have hf := it_t c5 hf
      refine G_iconst h dX9_gets_81 ki_0 rfl ?_
      refine G_mskL [true, true, true, false, false, true, true, true, false, false, false] (L' := [some (.ref v0), some (.int v1), some (.int v2), none, none, some (.int v5), some (.int v6), some (.int v7), none, none, none]) rfl ?_
      exact o_X9_gets_L82 h hE hR h_v0 (Or.inl rfl) hf
    · have hf := it_f c5 hf
      refine G_iconst h dX9_gets_77 ki_1 rfl ?_
      refine G_goto h dX9_gets_78 (tgt := 82) (by decide) ?_
      refine G_mskL [true, true, true, false, false, true, true, true, false, false, false] (L' := [some (.ref v0), some (.int v1), some (.int v2), none, none, some (.int v5), some (.int v6), some (.int v7), none, none, none]) rfl ?_
      exact o_X9_gets_L82 h hE hR h_v0 (Or.inr rfl) hf
def f_X9_gets_L26 (E : Env1) (M : Mem) (v0 : Nat) (v1 : Int32) (v2 : Int32) (v3 : Int32) (v4 : Int32) (v5 : Int32) (v6 : Int32) (v7 : Int32) (s0 : Int32) : Option (Int32) :=
  if (f_X9_has E M v5 (1 : Int32)) = 0 then (f_X9_gets_L46 E M v0 v1 v2 v3 v4 v5 v6 v7 (0 : Int32) s0)
  else (
    (f_X9_worth E M v0 v2 v7).bind fun x3 =>
    f_X9_gets_L46 E M v0 v1 v2 v3 v4 v5 v6 v7 x3 s0)
set_option maxRecDepth 100000 in
set_option maxHeartbeats 4000000 in
theorem o_X9_gets_L26 {X : Ctx} {l0 : Launch} {E : Env1} (h : Cx X l0 E RX9 cX9_gets (some .int) 11 rm_X9_gets) (hE : WF E) {M : Mem} {r : Int32} (hR : RetI X E cX9_gets r M) {v0 : Nat} {v1 : Int32} {v2 : Int32} {v3 : Int32} {v4 : Int32} {v5 : Int32} {v6 : Int32} {v7 : Int32} {s0 : Int32} (h_v0 : isK E v0 8) (hf : f_X9_gets_L26 E M v0 v1 v2 v3 v4 v5 v6 v7 s0 = some r) : G X E (0, 0) 26 [some (.ref v0), some (.int v1), some (.int v2), some (.int v3), some (.int v4), some (.int v5), some (.int v6), some (.int v7), none, none, none] [.int s0] M := by
  unfold f_X9_gets_L26 at hf
  refine G_iload h dX9_gets_26 rfl rfl ?_
  refine G_iconst h dX9_gets_28 ki_1 rfl ?_
  refine cl_X9_189 h (ok_X9_has hE _  (r := f_X9_has E M v5 (1 : Int32)) rfl) dX9_gets_29 (as := [.int v5, .int (1 : Int32)]) rfl rfl ⟨rfl, rfl, Nat.le_of_ble_eq_true rfl, Nat.le_of_ble_eq_true rfl⟩ rfl (Nat.le_of_ble_eq_true rfl) (fun z1 => ?_)
  refine G_if_eq h dX9_gets_32 (tgt := 45) (by decide) rfl (fun c2 => ?_) (fun c2 => ?_)
  · have hf := it_t c2 hf
    refine G_iconst h dX9_gets_45 ki_0 rfl ?_
    exact o_X9_gets_L46 h hE hR h_v0 hf
  · have hf := it_f c2 hf
    refine G_aload_n h dX9_gets_35 (i := 0) rfl rfl rfl ?_
    refine G_iload_n h dX9_gets_36 (i := 2) rfl rfl rfl ?_
    refine G_iload h dX9_gets_37 rfl rfl ?_
    obtain ⟨x3, hx3, hf⟩ := bd hf
    refine cl_X9_192 h (ok_X9_worth hE _ h_v0 hx3) dX9_gets_39 h_v0 (as := [.int v2, .int v7]) rfl rfl ⟨rfl, rfl, Nat.le_of_ble_eq_true rfl, Nat.le_of_ble_eq_true rfl⟩ rfl (Nat.le_of_ble_eq_true rfl) ?_
    refine G_goto h dX9_gets_42 (tgt := 46) (by decide) ?_
    exact o_X9_gets_L46 h hE hR h_v0 hf
def f_X9_gets (E : Env1) (M : Mem) (v0 : Nat) (v1 : Int32) (v2 : Int32) (v3 : Int32) (v4 : Int32) (v5 : Int32) (v6 : Int32) : Option (Int32) :=
  if (f_X9_has E M v5 (0 : Int32)) = 0 then (f_X9_gets_L26 E M v0 v1 v2 v3 v4 v5 v6 (f_X9_dayMinute E M v0) (0 : Int32))
  else (
    (f_X9_worth E M v0 v1 (f_X9_dayMinute E M v0)).bind fun x3 =>
    f_X9_gets_L26 E M v0 v1 v2 v3 v4 v5 v6 (f_X9_dayMinute E M v0) x3)
set_option maxRecDepth 100000 in
set_option maxHeartbeats 4000000 in
theorem ok_X9_gets {E : Env1} (hE : WF E) (l0 : Launch) {M : Mem} {v0 : Nat} {v1 : Int32} {v2 : Int32} {v3 : Int32} {v4 : Int32} {v5 : Int32} {v6 : Int32} {r : Int32} (h0 : isK E v0 8) (hf : f_X9_gets E M v0 v1 v2 v3 v4 v5 v6 = some r) : Met l0 yX9_gets (wsA yX9_gets cX9_gets 11 (some .int)) rm_X9_gets (CP E M [.ref v0, .int v1, .int v2, .int v3, .int v4, .int v5, .int v6]) (CQi E r M) 0 0 (eA E) := by
  unfold f_X9_gets at hf
  refine mtI l0 (by decide +kernel) (Nat.le_of_ble_eq_true rfl) (L0 := [some (.ref v0), some (.int v1), some (.int v2), some (.int v3), some (.int v4), some (.int v5), some (.int v6), none, none, none, none]) rfl (fun X h hR => ?_)
  refine G_aload_n h dX9_gets_0 (i := 0) rfl rfl rfl ?_
  refine cl_X9_210 h (ok_X9_dayMinute hE _ h0 (r := f_X9_dayMinute E M v0) rfl) dX9_gets_1 h0 (as := []) rfl rfl ⟨rfl, rfl, Nat.le_of_ble_eq_true rfl, Nat.le_of_ble_eq_true rfl⟩ rfl (Nat.le_of_ble_eq_true rfl) ?_
  refine G_istore h dX9_gets_4  (by decide) (L' := [some (.ref v0), some (.int v1), some (.int v2), some (.int v3), some (.int v4), some (.int v5), some (.int v6), some (.int (f_X9_dayMinute E M v0)), none, none, none]) rfl rfl ?_
  refine G_iload h dX9_gets_6 rfl rfl ?_
  refine G_iconst h dX9_gets_8 ki_0 rfl ?_
  refine cl_X9_189 h (ok_X9_has hE _  (r := f_X9_has E M v5 (0 : Int32)) rfl) dX9_gets_9 (as := [.int v5, .int (0 : Int32)]) rfl rfl ⟨rfl, rfl, Nat.le_of_ble_eq_true rfl, Nat.le_of_ble_eq_true rfl⟩ rfl (Nat.le_of_ble_eq_true rfl) (fun z1 => ?_)
  refine G_if_eq h dX9_gets_12 (tgt := 25) (by decide) rfl (fun c2 => ?_) (fun c2 => ?_)
  · have hf := it_t c2 hf
    refine G_iconst h dX9_gets_25 ki_0 rfl ?_
    exact o_X9_gets_L26 h hE hR h0 hf
  · have hf := it_f c2 hf
    refine G_aload_n h dX9_gets_15 (i := 0) rfl rfl rfl ?_
    refine G_iload_n h dX9_gets_16 (i := 1) rfl rfl rfl ?_
    refine G_iload h dX9_gets_17 rfl rfl ?_
    obtain ⟨x3, hx3, hf⟩ := bd hf
    refine cl_X9_192 h (ok_X9_worth hE _ h0 hx3) dX9_gets_19 h0 (as := [.int v1, .int (f_X9_dayMinute E M v0)]) rfl rfl ⟨rfl, rfl, Nat.le_of_ble_eq_true rfl, Nat.le_of_ble_eq_true rfl⟩ rfl (Nat.le_of_ble_eq_true rfl) ?_
    refine G_goto h dX9_gets_22 (tgt := 26) (by decide) ?_
    exact o_X9_gets_L26 h hE hR h0 hf
def rm_X9_tenBad : Room := { frames := 1, cells := 0, slots := 0, locals := 20 }
def f_X9_tenBad (E : Env1) (M : Mem) (v0 : Nat) : Int32 × Mem :=
  nm (f_X9_bad E M v0) fun x1 =>
  ((-10 : Int32), x1.2)
set_option maxRecDepth 100000 in
set_option maxHeartbeats 4000000 in
theorem ok_X9_tenBad {E : Env1} (hE : WF E) (l0 : Launch) {M : Mem} {M' : Mem} {v0 : Nat} {r : Int32} (h0 : isK E v0 8) (hf : f_X9_tenBad E M v0 = (r, M')) : Met l0 yX9_tenBad (wsA yX9_tenBad cX9_tenBad 1 (some .int)) rm_X9_tenBad (CP E M [.ref v0]) (CQi E r M') 0 0 (eA E) := by
  unfold f_X9_tenBad at hf
  refine mtI l0 (by decide +kernel) (Nat.le_of_ble_eq_true rfl) (L0 := [some (.ref v0)]) rfl (fun X h hR => ?_)
  refine G_aload_n h dX9_tenBad_0 (i := 0) rfl rfl rfl ?_
  obtain ⟨x1, hx1⟩ : ∃ x, x = f_X9_bad E M v0 := ⟨_, rfl⟩
  have hf := nm_eq hx1 hf
  refine cl_X9_95 h (ok_X9_bad hE _ h0 hx1.symm) dX9_tenBad_1 h0 (as := []) rfl rfl ⟨rfl, rfl, Nat.le_of_ble_eq_true rfl, Nat.le_of_ble_eq_true rfl⟩ rfl (Nat.le_of_ble_eq_true rfl) ?_
  refine G_pop h dX9_tenBad_4 rfl rfl ?_
  refine G_bipush h dX9_tenBad_5 kb_m10 rfl ?_
  exact twI hR dX9_tenBad_7 hf
def rm_X9_goes : Room := { frames := 2, cells := 0, slots := 0, locals := 44 }
def f_X9_goes_L98 (E : Env1) (M : Mem) (v0 : Nat) (v1 : Int32) (v2 : Int32) (v3 : Int32) (s0 : Int32) : Option (Int32 × Mem) :=
  gd v1 6 (nm (wi M (rr E v0 9) (ix v1) (if s0 = 0 then v3 else if v2 = (1 : Int32) then v3 + (1 : Int32) else v3 - (1 : Int32))) fun M4 =>
  (f_X9_passes E M4 v0).bind fun x5 =>
  some (mi x5 (rr E v0 9) (ix v1), x5))
set_option maxRecDepth 100000 in
set_option maxHeartbeats 4000000 in
theorem o_X9_goes_L98 {X : Ctx} {l0 : Launch} {E : Env1} (h : Cx X l0 E RX9 cX9_goes (some .int) 5 rm_X9_goes) (hE : WF E) {M' : Mem} {r : Int32} (hR : RetI X E cX9_goes r M') {M : Mem} {v0 : Nat} {v1 : Int32} {v2 : Int32} {v3 : Int32} {s0 : Int32} (h_v0 : isK E v0 8) (z_s0 : s0 = 0 ∨ s0 = 1) (hf : f_X9_goes_L98 E M v0 v1 v2 v3 s0 = some (r, M')) : G X E (0, 0) 98 [some (.ref v0), some (.int v1), some (.int v2), some (.int v3), none] [.int s0] M := by
  unfold f_X9_goes_L98 at hf
  refine G_istore h dX9_goes_98  (by decide) (L' := [some (.ref v0), some (.int v1), some (.int v2), some (.int v3), some (.int s0)]) rfl rfl ?_
  refine G_aload_n h dX9_goes_100 (i := 0) rfl rfl rfl ?_
  refine gf_X9_19 h hE dX9_goes_101 h_v0 rfl ?_
  refine G_iload_n h dX9_goes_104 (i := 1) rfl rfl rfl ?_
  refine G_iload h dX9_goes_105 rfl rfl ?_
  have hJ : G X E (0, 0) 128 [some (.ref v0), some (.int v1), some (.int v2), some (.int v3), some (.int s0)] [.int (if s0 = 0 then v3 else if v2 = (1 : Int32) then v3 + (1 : Int32) else v3 - (1 : Int32)), .int v1, .ref (rr E v0 9)] M := by
    obtain ⟨g3, hf⟩ := gd_some hf
    refine G_iast h dX9_goes_128 ((w_8_9 hE h_v0).2) g3 (jx := (ix v1)) rfl rfl ?_
    refine G_nmM (fun M4 hM4 => ?_)
    have hf := nm_eq hM4 hf
    refine G_aload_n h dX9_goes_129 (i := 0) rfl rfl rfl ?_
    obtain ⟨x5, hx5, hf⟩ := bd hf
    refine cl_X9_204 h (ok_X9_passes hE _ h_v0 hx5) dX9_goes_130 h_v0 (as := []) rfl rfl ⟨rfl, rfl, Nat.le_of_ble_eq_true rfl, Nat.le_of_ble_eq_true rfl⟩ rfl (Nat.le_of_ble_eq_true rfl) ?_
    refine G_aload_n h dX9_goes_133 (i := 0) rfl rfl rfl ?_
    refine gf_X9_19 h hE dX9_goes_134 h_v0 rfl ?_
    refine G_iload_n h dX9_goes_137 (i := 1) rfl rfl rfl ?_
    refine G_iald h dX9_goes_138 ((w_8_9 hE h_v0).2) g3 (jx := (ix v1)) rfl rfl ?_
    exact pwI hR dX9_goes_139 hf
  refine G_if_eq h dX9_goes_107 (tgt := 127) (by decide) rfl (fun c1 => ?_) (fun c1 => ?_)
  · refine G_iload_n h dX9_goes_127 (i := 3) rfl rfl rfl ?_
    exact G_ifp c1 hJ
  · refine G_iload_n h dX9_goes_110 (i := 2) rfl rfl rfl ?_
    refine G_iconst h dX9_goes_111 ki_1 rfl ?_
    refine G_icmp_ne h dX9_goes_112 (tgt := 121) (by decide) rfl (fun c2 => ?_) (fun c2 => ?_)
    · refine G_iload_n h dX9_goes_121 (i := 3) rfl rfl rfl ?_
      refine G_iconst h dX9_goes_122 ki_1 rfl ?_
      refine G_isub h dX9_goes_123 rfl ?_
      refine G_goto h dX9_goes_124 (tgt := 128) (by decide) ?_
      exact G_ifn c2 (G_ifn c1 hJ)
    · refine G_iload_n h dX9_goes_115 (i := 3) rfl rfl rfl ?_
      refine G_iconst h dX9_goes_116 ki_1 rfl ?_
      refine G_iadd h dX9_goes_117 rfl ?_
      refine G_goto h dX9_goes_118 (tgt := 128) (by decide) ?_
      exact G_ifp c2 (G_ifn c1 hJ)
def f_X9_goes_L49 (E : Env1) (M : Mem) (v0 : Nat) (v1 : Int32) (v2 : Int32) (v3 : Int32) : Option (Int32 × Mem) :=
  if (mi M v0 2) = (9999 : Int32) then (
    nm (f_X9_no E M v0) fun x8 =>
    some (x8.1, x8.2))
  else (
    (f_X9_notes E M v0).bind fun x2 =>
    if v2 = 0 then (f_X9_goes_L98 E x2 v0 v1 v2 v3 (1 : Int32))
    else (
      if v3 = (7 : Int32) then (f_X9_goes_L98 E x2 v0 v1 v2 v3 (1 : Int32))
      else (
        gd v1 6 (if (f_X9_has E x2 (mi x2 (rr E v0 10) (ix v1)) (v3 + (1 : Int32))) = 0 then (f_X9_goes_L98 E x2 v0 v1 v2 v3 (0 : Int32))
        else (f_X9_goes_L98 E x2 v0 v1 v2 v3 (1 : Int32))))))
set_option maxRecDepth 100000 in
set_option maxHeartbeats 4000000 in
theorem o_X9_goes_L49 {X : Ctx} {l0 : Launch} {E : Env1} (h : Cx X l0 E RX9 cX9_goes (some .int) 5 rm_X9_goes) (hE : WF E) {M' : Mem} {r : Int32} (hR : RetI X E cX9_goes r M') {M : Mem} {v0 : Nat} {v1 : Int32} {v2 : Int32} {v3 : Int32} (h_v0 : isK E v0 8) (hf : f_X9_goes_L49 E M v0 v1 v2 v3 = some (r, M')) : G X E (0, 0) 49 [some (.ref v0), some (.int v1), some (.int v2), some (.int v3), none] [] M := by
  unfold f_X9_goes_L49 at hf
  refine G_aload_n h dX9_goes_49 (i := 0) rfl rfl rfl ?_
  refine gf_X9_73 h dX9_goes_50 h_v0 rfl ?_
  refine G_sipush h dX9_goes_53 ks_9999 rfl ?_
  refine G_icmp_ne h dX9_goes_56 (tgt := 64) (by decide) rfl (fun c1 => ?_) (fun c1 => ?_)
  · have hf := it_f c1 hf
    refine G_aload_n h dX9_goes_64 (i := 0) rfl rfl rfl ?_
    obtain ⟨x2, hx2, hf⟩ := bd hf
    refine cl_X9_225 h (ok_X9_notes hE _ h_v0 hx2) dX9_goes_65 h_v0 (as := []) rfl rfl ⟨rfl, rfl, Nat.le_of_ble_eq_true rfl, Nat.le_of_ble_eq_true rfl⟩ rfl (Nat.le_of_ble_eq_true rfl) ?_
    refine G_iload_n h dX9_goes_68 (i := 2) rfl rfl rfl ?_
    refine G_if_eq h dX9_goes_69 (tgt := 93) (by decide) rfl (fun c3 => ?_) (fun c3 => ?_)
    · have hf := it_t c3 hf
      refine G_iconst h dX9_goes_93 ki_1 rfl ?_
      refine G_goto h dX9_goes_94 (tgt := 98) (by decide) ?_
      exact o_X9_goes_L98 h hE hR h_v0 (Or.inr rfl) hf
    · have hf := it_f c3 hf
      refine G_iload_n h dX9_goes_72 (i := 3) rfl rfl rfl ?_
      refine G_bipush h dX9_goes_73 kb_7 rfl ?_
      refine G_icmp_eq h dX9_goes_75 (tgt := 93) (by decide) rfl (fun c4 => ?_) (fun c4 => ?_)
      · have hf := it_t c4 hf
        refine G_iconst h dX9_goes_93 ki_1 rfl ?_
        refine G_goto h dX9_goes_94 (tgt := 98) (by decide) ?_
        exact o_X9_goes_L98 h hE hR h_v0 (Or.inr rfl) hf
      · have hf := it_f c4 hf
        refine G_aload_n h dX9_goes_78 (i := 0) rfl rfl rfl ?_
        refine gf_X9_22 h hE dX9_goes_79 h_v0 rfl ?_
        refine G_iload_n h dX9_goes_82 (i := 1) rfl rfl rfl ?_
        obtain ⟨g5, hf⟩ := gd_some hf
        refine G_iald h dX9_goes_83 ((w_8_10 hE h_v0).2) g5 (jx := (ix v1)) rfl rfl ?_
        refine G_iload_n h dX9_goes_84 (i := 3) rfl rfl rfl ?_
        refine G_iconst h dX9_goes_85 ki_1 rfl ?_
        refine G_iadd h dX9_goes_86 rfl ?_
        refine cl_X9_189 h (ok_X9_has hE _  (r := f_X9_has E x2 (mi x2 (rr E v0 10) (ix v1)) (v3 + (1 : Int32))) rfl) dX9_goes_87 (as := [.int (mi x2 (rr E v0 10) (ix v1)), .int (v3 + (1 : Int32))]) rfl rfl ⟨rfl, rfl, Nat.le_of_ble_eq_true rfl, Nat.le_of_ble_eq_true rfl⟩ rfl (Nat.le_of_ble_eq_true rfl) (fun z6 => ?_)
        refine G_if_eq h dX9_goes_90 (tgt := 97) (by decide) rfl (fun c7 => ?_) (fun c7 => ?_)
        · have hf := it_t c7 hf
          refine G_iconst h dX9_goes_97 ki_0 rfl ?_
          exact o_X9_goes_L98 h hE hR h_v0 (Or.inl rfl) hf
        · have hf := it_f c7 hf
          refine G_iconst h dX9_goes_93 ki_1 rfl ?_
          refine G_goto h dX9_goes_94 (tgt := 98) (by decide) ?_
          exact o_X9_goes_L98 h hE hR h_v0 (Or.inr rfl) hf
  · have hf := it_t c1 hf
    refine G_aload_n h dX9_goes_59 (i := 0) rfl rfl rfl ?_
    obtain ⟨x8, hx8⟩ : ∃ x, x = f_X9_no E M v0 := ⟨_, rfl⟩
    have hf := nm_eq hx8 hf
    refine cl_X9_222 h (ok_X9_no hE _ h_v0 hx8.symm) dX9_goes_60 h_v0 (as := []) rfl rfl ⟨rfl, rfl, Nat.le_of_ble_eq_true rfl, Nat.le_of_ble_eq_true rfl⟩ rfl (Nat.le_of_ble_eq_true rfl) ?_
    exact pwI hR dX9_goes_63 hf
def f_X9_goes_L40 (E : Env1) (M : Mem) (v0 : Nat) (v1 : Int32) (v2 : Int32) (v3 : Int32) : Option (Int32 × Mem) :=
  if v2 = 0 then (
    if v3 = (-1 : Int32) then (
      nm (f_X9_no E M v0) fun x3 =>
      some (x3.1, x3.2))
    else (f_X9_goes_L49 E M v0 v1 v2 v3))
  else (f_X9_goes_L49 E M v0 v1 v2 v3)
set_option maxRecDepth 100000 in
set_option maxHeartbeats 4000000 in
theorem o_X9_goes_L40 {X : Ctx} {l0 : Launch} {E : Env1} (h : Cx X l0 E RX9 cX9_goes (some .int) 5 rm_X9_goes) (hE : WF E) {M' : Mem} {r : Int32} (hR : RetI X E cX9_goes r M') {M : Mem} {v0 : Nat} {v1 : Int32} {v2 : Int32} {v3 : Int32} (h_v0 : isK E v0 8) (hf : f_X9_goes_L40 E M v0 v1 v2 v3 = some (r, M')) : G X E (0, 0) 40 [some (.ref v0), some (.int v1), some (.int v2), some (.int v3), none] [] M := by
  unfold f_X9_goes_L40 at hf
  refine G_iload_n h dX9_goes_40 (i := 2) rfl rfl rfl ?_
  refine G_if_ne h dX9_goes_41 (tgt := 49) (by decide) rfl (fun c1 => ?_) (fun c1 => ?_)
  · have hf := it_f c1 hf
    exact o_X9_goes_L49 h hE hR h_v0 hf
  · have hf := it_t c1 hf
    refine G_iload_n h dX9_goes_44 (i := 3) rfl rfl rfl ?_
    refine G_iconst h dX9_goes_45 ki_m1 rfl ?_
    refine G_icmp_eq h dX9_goes_46 (tgt := 59) (by decide) rfl (fun c2 => ?_) (fun c2 => ?_)
    · have hf := it_t c2 hf
      refine G_aload_n h dX9_goes_59 (i := 0) rfl rfl rfl ?_
      obtain ⟨x3, hx3⟩ : ∃ x, x = f_X9_no E M v0 := ⟨_, rfl⟩
      have hf := nm_eq hx3 hf
      refine cl_X9_222 h (ok_X9_no hE _ h_v0 hx3.symm) dX9_goes_60 h_v0 (as := []) rfl rfl ⟨rfl, rfl, Nat.le_of_ble_eq_true rfl, Nat.le_of_ble_eq_true rfl⟩ rfl (Nat.le_of_ble_eq_true rfl) ?_
      exact pwI hR dX9_goes_63 hf
    · have hf := it_f c2 hf
      exact o_X9_goes_L49 h hE hR h_v0 hf
def f_X9_goes (E : Env1) (M : Mem) (v0 : Nat) (v1 : Int32) (v2 : Int32) : Option (Int32 × Mem) :=
  if (f_X9_isOne E M v0 v1) = 0 then (
    nm (f_X9_tenBad E M v0) fun x3 =>
    some (x3.1, x3.2))
  else (
    if (f_X9_in E M v2 (0 : Int32) (1 : Int32)) = 0 then (
      nm (f_X9_tenBad E M v0) fun x10 =>
      some (x10.1, x10.2))
    else (
      gd v1 6 (if v2 = (1 : Int32) then (
        if (mi M (rr E v0 9) (ix v1)) = (8 : Int32) then (
          nm (f_X9_no E M v0) fun x9 =>
          some (x9.1, x9.2))
        else (f_X9_goes_L40 E M v0 v1 v2 (mi M (rr E v0 9) (ix v1))))
      else (f_X9_goes_L40 E M v0 v1 v2 (mi M (rr E v0 9) (ix v1))))))
set_option maxRecDepth 100000 in
set_option maxHeartbeats 4000000 in
theorem ok_X9_goes {E : Env1} (hE : WF E) (l0 : Launch) {M : Mem} {M' : Mem} {v0 : Nat} {v1 : Int32} {v2 : Int32} {r : Int32} (h0 : isK E v0 8) (hf : f_X9_goes E M v0 v1 v2 = some (r, M')) : Met l0 yX9_goes (wsA yX9_goes cX9_goes 5 (some .int)) rm_X9_goes (CP E M [.ref v0, .int v1, .int v2]) (CQi E r M') 0 0 (eA E) := by
  unfold f_X9_goes at hf
  refine mtI l0 (by decide +kernel) (Nat.le_of_ble_eq_true rfl) (L0 := [some (.ref v0), some (.int v1), some (.int v2), none, none]) rfl (fun X h hR => ?_)
  refine G_aload_n h dX9_goes_0 (i := 0) rfl rfl rfl ?_
  refine G_iload_n h dX9_goes_1 (i := 1) rfl rfl rfl ?_
  refine cl_X9_216 h (ok_X9_isOne hE _ h0 (r := f_X9_isOne E M v0 v1) rfl) dX9_goes_2 h0 (as := [.int v1]) rfl rfl ⟨rfl, rfl, Nat.le_of_ble_eq_true rfl, Nat.le_of_ble_eq_true rfl⟩ rfl (Nat.le_of_ble_eq_true rfl) (fun z1 => ?_)
  refine G_if_eq h dX9_goes_5 (tgt := 17) (by decide) rfl (fun c2 => ?_) (fun c2 => ?_)
  · have hf := it_t c2 hf
    refine G_aload_n h dX9_goes_17 (i := 0) rfl rfl rfl ?_
    obtain ⟨x3, hx3⟩ : ∃ x, x = f_X9_tenBad E M v0 := ⟨_, rfl⟩
    have hf := nm_eq hx3 hf
    refine cl_X9_232 h (ok_X9_tenBad hE _ h0 hx3.symm) dX9_goes_18 h0 (as := []) rfl rfl ⟨rfl, rfl, Nat.le_of_ble_eq_true rfl, Nat.le_of_ble_eq_true rfl⟩ rfl (Nat.le_of_ble_eq_true rfl) ?_
    exact pwI hR dX9_goes_21 hf
  · have hf := it_f c2 hf
    refine G_iload_n h dX9_goes_8 (i := 2) rfl rfl rfl ?_
    refine G_iconst h dX9_goes_9 ki_0 rfl ?_
    refine G_iconst h dX9_goes_10 ki_1 rfl ?_
    refine cl_X9_91 h (ok_X9_in hE _  (r := f_X9_in E M v2 (0 : Int32) (1 : Int32)) rfl) dX9_goes_11 (as := [.int v2, .int (0 : Int32), .int (1 : Int32)]) rfl rfl ⟨rfl, rfl, Nat.le_of_ble_eq_true rfl, Nat.le_of_ble_eq_true rfl⟩ rfl (Nat.le_of_ble_eq_true rfl) (fun z4 => ?_)
    refine G_if_ne h dX9_goes_14 (tgt := 22) (by decide) rfl (fun c5 => ?_) (fun c5 => ?_)
    · have hf := it_f c5 hf
      refine G_aload_n h dX9_goes_22 (i := 0) rfl rfl rfl ?_
      refine gf_X9_19 h hE dX9_goes_23 h0 rfl ?_
      refine G_iload_n h dX9_goes_26 (i := 1) rfl rfl rfl ?_
      obtain ⟨g6, hf⟩ := gd_some hf
      refine G_iald h dX9_goes_27 ((w_8_9 hE h0).2) g6 (jx := (ix v1)) rfl rfl ?_
      refine G_istore_n h dX9_goes_28 (i := 3) rfl (by decide) (L' := [some (.ref v0), some (.int v1), some (.int v2), some (.int (mi M (rr E v0 9) (ix v1))), none]) rfl rfl ?_
      refine G_iload_n h dX9_goes_29 (i := 2) rfl rfl rfl ?_
      refine G_iconst h dX9_goes_30 ki_1 rfl ?_
      refine G_icmp_ne h dX9_goes_31 (tgt := 40) (by decide) rfl (fun c7 => ?_) (fun c7 => ?_)
      · have hf := it_f c7 hf
        exact o_X9_goes_L40 h hE hR h0 hf
      · have hf := it_t c7 hf
        refine G_iload_n h dX9_goes_34 (i := 3) rfl rfl rfl ?_
        refine G_bipush h dX9_goes_35 kb_8 rfl ?_
        refine G_icmp_eq h dX9_goes_37 (tgt := 59) (by decide) rfl (fun c8 => ?_) (fun c8 => ?_)
        · have hf := it_t c8 hf
          refine G_aload_n h dX9_goes_59 (i := 0) rfl rfl rfl ?_
          obtain ⟨x9, hx9⟩ : ∃ x, x = f_X9_no E M v0 := ⟨_, rfl⟩
          have hf := nm_eq hx9 hf
          refine cl_X9_222 h (ok_X9_no hE _ h0 hx9.symm) dX9_goes_60 h0 (as := []) rfl rfl ⟨rfl, rfl, Nat.le_of_ble_eq_true rfl, Nat.le_of_ble_eq_true rfl⟩ rfl (Nat.le_of_ble_eq_true rfl) ?_
          exact pwI hR dX9_goes_63 hf
        · have hf := it_f c8 hf
          exact o_X9_goes_L40 h hE hR h0 hf
    · have hf := it_t c5 hf
      refine G_aload_n h dX9_goes_17 (i := 0) rfl rfl rfl ?_
      obtain ⟨x10, hx10⟩ : ∃ x, x = f_X9_tenBad E M v0 := ⟨_, rfl⟩
      have hf := nm_eq hx10 hf
      refine cl_X9_232 h (ok_X9_tenBad hE _ h0 hx10.symm) dX9_goes_18 h0 (as := []) rfl rfl ⟨rfl, rfl, Nat.le_of_ble_eq_true rfl, Nat.le_of_ble_eq_true rfl⟩ rfl (Nat.le_of_ble_eq_true rfl) ?_
      exact pwI hR dX9_goes_21 hf
def rm_X9_goesOn : Room := { frames := 2, cells := 0, slots := 0, locals := 43 }
def b_X9_goesOn_L2 (E : Env1) (k2 : Mem → Nat → Int32 → Int32 → (Option (Mem))) (M : Mem) (v0 : Nat) (v1 : Int32) (v2 : Int32) : Option (Mem) :=
  if v1 ≤ v2 then (some M)
  else (
    (f_X9_passes E M v0).bind fun x2 =>
    k2 x2 v0 v1 (v2 + 1))
set_option maxRecDepth 100000 in
set_option maxHeartbeats 4000000 in
theorem ob_X9_goesOn_L2 {X : Ctx} {l0 : Launch} {E : Env1} (h : Cx X l0 E RX9 cX9_goesOn none 3 rm_X9_goesOn) (hE : WF E) {M' : Mem} (hR : RetV X E cX9_goesOn M') {k2 : Mem → Nat → Int32 → Int32 → (Option (Mem))} (hk2 : ∀ (M : Mem) (v0 : Nat) (v1 : Int32) (v2 : Int32), isK E v0 8 → k2 M v0 v1 v2 = some (M') → G X E (0, 0) 2 [some (.ref v0), some (.int v1), some (.int v2)] [] M) {M : Mem} {v0 : Nat} {v1 : Int32} {v2 : Int32} (h_v0 : isK E v0 8) (hf : b_X9_goesOn_L2 E k2 M v0 v1 v2 = some (M')) : G X E (0, 0) 2 [some (.ref v0), some (.int v1), some (.int v2)] [] M := by
  unfold b_X9_goesOn_L2 at hf
  refine G_iload_n h dX9_goesOn_2 (i := 2) rfl rfl rfl ?_
  refine G_iload_n h dX9_goesOn_3 (i := 1) rfl rfl rfl ?_
  refine G_icmp_ge h dX9_goesOn_4 (tgt := 17) (by decide) rfl (fun c1 => ?_) (fun c1 => ?_)
  · have hf := it_t c1 hf
    exact pwV hR dX9_goesOn_17 hf
  · have hf := it_f c1 hf
    refine G_aload_n h dX9_goesOn_7 (i := 0) rfl rfl rfl ?_
    obtain ⟨x2, hx2, hf⟩ := bd hf
    refine cl_X9_204 h (ok_X9_passes hE _ h_v0 hx2) dX9_goesOn_8 h_v0 (as := []) rfl rfl ⟨rfl, rfl, Nat.le_of_ble_eq_true rfl, Nat.le_of_ble_eq_true rfl⟩ rfl (Nat.le_of_ble_eq_true rfl) ?_
    refine G_iinc2 h dX9_goesOn_11 rfl ki_1 (by decide) (L' := [some (.ref v0), some (.int v1), some (.int (v2 + 1))]) rfl rfl ?_
    refine G_goto h dX9_goesOn_14 (tgt := 2) (by decide) ?_
    exact hk2 _ _ _ _ h_v0 hf
def f_X9_goesOn_L2 (E : Env1) : Nat → Mem → Nat → Int32 → Int32 → (Option (Mem))
  | 0 => fun _ _ _ _ => none
  | n + 1 => b_X9_goesOn_L2 E (f_X9_goesOn_L2 E n)
theorem o_X9_goesOn_L2 {X : Ctx} {l0 : Launch} {E : Env1} (h : Cx X l0 E RX9 cX9_goesOn none 3 rm_X9_goesOn) (hE : WF E) {M' : Mem} (hR : RetV X E cX9_goesOn M') : ∀ (n : Nat) (M : Mem) (v0 : Nat) (v1 : Int32) (v2 : Int32), isK E v0 8 → f_X9_goesOn_L2 E n M v0 v1 v2 = some (M') → G X E (0, 0) 2 [some (.ref v0), some (.int v1), some (.int v2)] [] M := by
  intro n
  induction n with
  | zero =>
    intro _ _ _ _ a0 hf
    have h0 : (none : Option (Mem)) = some (M') := hf
    cases h0
  | succ n ih =>
    intro _ _ _ _ a0 hf
    exact ob_X9_goesOn_L2 h hE hR  ih a0 hf
def f_X9_goesOn (E : Env1) (M : Mem) (v0 : Nat) (v1 : Int32) : Option (Mem) :=
  f_X9_goesOn_L2 E FU M v0 v1 (0 : Int32)
set_option maxRecDepth 100000 in
set_option maxHeartbeats 4000000 in
theorem ok_X9_goesOn {E : Env1} (hE : WF E) (l0 : Launch) {M : Mem} {M' : Mem} {v0 : Nat} {v1 : Int32} (h0 : isK E v0 8) (hf : f_X9_goesOn E M v0 v1 = some (M')) : Met l0 yX9_goesOn (wsA yX9_goesOn cX9_goesOn 3 none) rm_X9_goesOn (CP E M [.ref v0, .int v1]) (CQv E M') 0 0 (eA E) := by
  unfold f_X9_goesOn at hf
  refine mtV l0 (by decide +kernel) (Nat.le_of_ble_eq_true rfl) (L0 := [some (.ref v0), some (.int v1), none]) rfl (fun X h hR => ?_)
  refine G_iconst h dX9_goesOn_0 ki_0 rfl ?_
  refine G_istore_n h dX9_goesOn_1 (i := 2) rfl (by decide) (L' := [some (.ref v0), some (.int v1), some (.int (0 : Int32))]) rfl rfl ?_
  exact o_X9_goesOn_L2 h hE hR  FU _ _ _ _ h0 hf
def rm_X9_hears : Room := { frames := 2, cells := 0, slots := 0, locals := 43 }
def f_X9_hears_L60 (E : Env1) (M : Mem) (v0 : Nat) (v1 : Int32) (v2 : Int32) (v3 : Int32) : Option (Int32 × Mem) :=
  gd v1 6 (nm (f_X9_has E M (mi M (rr E v0 10) (ix v1)) v2) fun x3 =>
  (f_X9_takes E 22 M v0 (rr E v0 22) (0 : Int32)).bind fun x4 =>
  some (if x3 = 0 then (-1 : Int32) else v3, x4))
set_option maxRecDepth 100000 in
set_option maxHeartbeats 4000000 in
theorem o_X9_hears_L60 {X : Ctx} {l0 : Launch} {E : Env1} (h : Cx X l0 E RX9 cX9_hears (some .int) 5 rm_X9_hears) (hE : WF E) {M' : Mem} {r : Int32} (hR : RetI X E cX9_hears r M') {M : Mem} {v0 : Nat} {v1 : Int32} {v2 : Int32} {v3 : Int32} (h_v0 : isK E v0 8) (hf : f_X9_hears_L60 E M v0 v1 v2 v3 = some (r, M')) : G X E (0, 0) 60 [some (.ref v0), some (.int v1), some (.int v2), some (.int v3), none] [] M := by
  unfold f_X9_hears_L60 at hf
  refine G_aload_n h dX9_hears_60 (i := 0) rfl rfl rfl ?_
  refine gf_X9_22 h hE dX9_hears_61 h_v0 rfl ?_
  refine G_iload_n h dX9_hears_64 (i := 1) rfl rfl rfl ?_
  obtain ⟨g1, hf⟩ := gd_some hf
  refine G_iald h dX9_hears_65 ((w_8_10 hE h_v0).2) g1 (jx := (ix v1)) rfl rfl ?_
  refine G_iload_n h dX9_hears_66 (i := 2) rfl rfl rfl ?_
  refine cl_X9_189 h (ok_X9_has hE _  (r := f_X9_has E M (mi M (rr E v0 10) (ix v1)) v2) rfl) dX9_hears_67 (as := [.int (mi M (rr E v0 10) (ix v1)), .int v2]) rfl rfl ⟨rfl, rfl, Nat.le_of_ble_eq_true rfl, Nat.le_of_ble_eq_true rfl⟩ rfl (Nat.le_of_ble_eq_true rfl) (fun z2 => ?_)
  refine G_nmi (fun x3 hx3 => ?_)
  have hf := nm_eq hx3 hf
  refine G_istore h dX9_hears_70  (by decide) (L' := [some (.ref v0), some (.int v1), some (.int v2), some (.int v3), some (.int x3)]) rfl rfl ?_
  refine G_aload_n h dX9_hears_72 (i := 0) rfl rfl rfl ?_
  refine G_aload_n h dX9_hears_73 (i := 0) rfl rfl rfl ?_
  refine gf_X9_46 h hE dX9_hears_74 h_v0 rfl ?_
  refine G_iconst h dX9_hears_77 ki_0 rfl ?_
  obtain ⟨x4, hx4, hf⟩ := bd hf
  refine cl_X9_241 h (ok_X9_takes hE _ h_v0 ((w_8_22 hE h_v0).2) hx4) dX9_hears_78 h_v0 (as := [.ref (rr E v0 22), .int (0 : Int32)]) rfl rfl ⟨rfl, rfl, Nat.le_of_ble_eq_true rfl, Nat.le_of_ble_eq_true rfl⟩ rfl (Nat.le_of_ble_eq_true rfl) ?_
  refine G_iload h dX9_hears_81 rfl rfl ?_
  have hJ : G X E (0, 0) 91 [some (.ref v0), some (.int v1), some (.int v2), some (.int v3), some (.int x3)] [.int (if x3 = 0 then (-1 : Int32) else v3)] x4 := by
    exact pwI hR dX9_hears_91 hf
  refine G_if_eq h dX9_hears_83 (tgt := 90) (by decide) rfl (fun c5 => ?_) (fun c5 => ?_)
  · refine G_iconst h dX9_hears_90 ki_m1 rfl ?_
    exact G_ifp c5 hJ
  · refine G_iload_n h dX9_hears_86 (i := 3) rfl rfl rfl ?_
    refine G_goto h dX9_hears_87 (tgt := 91) (by decide) ?_
    exact G_ifn c5 hJ
def b_X9_hears_L31 (E : Env1) (k31 : Mem → Nat → Int32 → Int32 → Int32 → (Option (Int32 × Mem))) (M : Mem) (v0 : Nat) (v1 : Int32) (v2 : Int32) (v3 : Int32) : Option (Int32 × Mem) :=
  if (60 : Int32) ≤ v3 then (f_X9_hears_L60 E M v0 v1 v2 v3)
  else (
    gd v1 6 (if (f_X9_has E M (mi M (rr E v0 10) (ix v1)) v2) = 0 then (
      (f_X9_passes E M v0).bind fun x5 =>
      k31 x5 v0 v1 v2 (v3 + 1))
    else (f_X9_hears_L60 E M v0 v1 v2 v3)))
set_option maxRecDepth 100000 in
set_option maxHeartbeats 4000000 in
theorem ob_X9_hears_L31 {X : Ctx} {l0 : Launch} {E : Env1} (h : Cx X l0 E RX9 cX9_hears (some .int) 5 rm_X9_hears) (hE : WF E) {M' : Mem} {r : Int32} (hR : RetI X E cX9_hears r M') {k31 : Mem → Nat → Int32 → Int32 → Int32 → (Option (Int32 × Mem))} (hk31 : ∀ (M : Mem) (v0 : Nat) (v1 : Int32) (v2 : Int32) (v3 : Int32), isK E v0 8 → k31 M v0 v1 v2 v3 = some (r, M') → G X E (0, 0) 31 [some (.ref v0), some (.int v1), some (.int v2), some (.int v3), none] [] M) {M : Mem} {v0 : Nat} {v1 : Int32} {v2 : Int32} {v3 : Int32} (h_v0 : isK E v0 8) (hf : b_X9_hears_L31 E k31 M v0 v1 v2 v3 = some (r, M')) : G X E (0, 0) 31 [some (.ref v0), some (.int v1), some (.int v2), some (.int v3), none] [] M := by
  unfold b_X9_hears_L31 at hf
  refine G_iload_n h dX9_hears_31 (i := 3) rfl rfl rfl ?_
  refine G_bipush h dX9_hears_32 kb_60 rfl ?_
  refine G_icmp_ge h dX9_hears_34 (tgt := 60) (by decide) rfl (fun c1 => ?_) (fun c1 => ?_)
  · have hf := it_t c1 hf
    exact o_X9_hears_L60 h hE hR h_v0 hf
  · have hf := it_f c1 hf
    refine G_aload_n h dX9_hears_37 (i := 0) rfl rfl rfl ?_
    refine gf_X9_22 h hE dX9_hears_38 h_v0 rfl ?_
    refine G_iload_n h dX9_hears_41 (i := 1) rfl rfl rfl ?_
    obtain ⟨g2, hf⟩ := gd_some hf
    refine G_iald h dX9_hears_42 ((w_8_10 hE h_v0).2) g2 (jx := (ix v1)) rfl rfl ?_
    refine G_iload_n h dX9_hears_43 (i := 2) rfl rfl rfl ?_
    refine cl_X9_189 h (ok_X9_has hE _  (r := f_X9_has E M (mi M (rr E v0 10) (ix v1)) v2) rfl) dX9_hears_44 (as := [.int (mi M (rr E v0 10) (ix v1)), .int v2]) rfl rfl ⟨rfl, rfl, Nat.le_of_ble_eq_true rfl, Nat.le_of_ble_eq_true rfl⟩ rfl (Nat.le_of_ble_eq_true rfl) (fun z3 => ?_)
    refine G_if_ne h dX9_hears_47 (tgt := 60) (by decide) rfl (fun c4 => ?_) (fun c4 => ?_)
    · have hf := it_f c4 hf
      exact o_X9_hears_L60 h hE hR h_v0 hf
    · have hf := it_t c4 hf
      refine G_aload_n h dX9_hears_50 (i := 0) rfl rfl rfl ?_
      obtain ⟨x5, hx5, hf⟩ := bd hf
      refine cl_X9_204 h (ok_X9_passes hE _ h_v0 hx5) dX9_hears_51 h_v0 (as := []) rfl rfl ⟨rfl, rfl, Nat.le_of_ble_eq_true rfl, Nat.le_of_ble_eq_true rfl⟩ rfl (Nat.le_of_ble_eq_true rfl) ?_
      refine G_iinc2 h dX9_hears_54 rfl ki_1 (by decide) (L' := [some (.ref v0), some (.int v1), some (.int v2), some (.int (v3 + 1)), none]) rfl rfl ?_
      refine G_goto h dX9_hears_57 (tgt := 31) (by decide) ?_
      exact hk31 _ _ _ _ _ h_v0 hf
def f_X9_hears_L31 (E : Env1) : Nat → Mem → Nat → Int32 → Int32 → Int32 → (Option (Int32 × Mem))
  | 0 => fun _ _ _ _ _ => none
  | n + 1 => b_X9_hears_L31 E (f_X9_hears_L31 E n)
theorem o_X9_hears_L31 {X : Ctx} {l0 : Launch} {E : Env1} (h : Cx X l0 E RX9 cX9_hears (some .int) 5 rm_X9_hears) (hE : WF E) {M' : Mem} {r : Int32} (hR : RetI X E cX9_hears r M') : ∀ (n : Nat) (M : Mem) (v0 : Nat) (v1 : Int32) (v2 : Int32) (v3 : Int32), isK E v0 8 → f_X9_hears_L31 E n M v0 v1 v2 v3 = some (r, M') → G X E (0, 0) 31 [some (.ref v0), some (.int v1), some (.int v2), some (.int v3), none] [] M := by
  intro n
  induction n with
  | zero =>
    intro _ _ _ _ _ a0 hf
    have h0 : (none : Option (Int32 × Mem)) = some (r, M') := hf
    cases h0
  | succ n ih =>
    intro _ _ _ _ _ a0 hf
    exact ob_X9_hears_L31 h hE hR  ih a0 hf
def f_X9_hears (E : Env1) (M : Mem) (v0 : Nat) (v1 : Int32) (v2 : Int32) : Option (Int32 × Mem) :=
  if (f_X9_isOne E M v0 v1) = 0 then (
    nm (f_X9_bad E M v0) fun x3 =>
    some (x3.1, x3.2))
  else (
    if (f_X9_isStep E M v2) = 0 then (
      nm (f_X9_bad E M v0) fun x7 =>
      some (x7.1, x7.2))
    else (
      (f_X9_lays E 22 M v0 (rr E v0 22) (0 : Int32)).bind fun x6 =>
      f_X9_hears_L31 E FU x6 v0 v1 v2 (0 : Int32)))
set_option maxRecDepth 100000 in
set_option maxHeartbeats 4000000 in
theorem ok_X9_hears {E : Env1} (hE : WF E) (l0 : Launch) {M : Mem} {M' : Mem} {v0 : Nat} {v1 : Int32} {v2 : Int32} {r : Int32} (h0 : isK E v0 8) (hf : f_X9_hears E M v0 v1 v2 = some (r, M')) : Met l0 yX9_hears (wsA yX9_hears cX9_hears 5 (some .int)) rm_X9_hears (CP E M [.ref v0, .int v1, .int v2]) (CQi E r M') 0 0 (eA E) := by
  unfold f_X9_hears at hf
  refine mtI l0 (by decide +kernel) (Nat.le_of_ble_eq_true rfl) (L0 := [some (.ref v0), some (.int v1), some (.int v2), none, none]) rfl (fun X h hR => ?_)
  refine G_aload_n h dX9_hears_0 (i := 0) rfl rfl rfl ?_
  refine G_iload_n h dX9_hears_1 (i := 1) rfl rfl rfl ?_
  refine cl_X9_216 h (ok_X9_isOne hE _ h0 (r := f_X9_isOne E M v0 v1) rfl) dX9_hears_2 h0 (as := [.int v1]) rfl rfl ⟨rfl, rfl, Nat.le_of_ble_eq_true rfl, Nat.le_of_ble_eq_true rfl⟩ rfl (Nat.le_of_ble_eq_true rfl) (fun z1 => ?_)
  refine G_if_eq h dX9_hears_5 (tgt := 15) (by decide) rfl (fun c2 => ?_) (fun c2 => ?_)
  · have hf := it_t c2 hf
    refine G_aload_n h dX9_hears_15 (i := 0) rfl rfl rfl ?_
    obtain ⟨x3, hx3⟩ : ∃ x, x = f_X9_bad E M v0 := ⟨_, rfl⟩
    have hf := nm_eq hx3 hf
    refine cl_X9_95 h (ok_X9_bad hE _ h0 hx3.symm) dX9_hears_16 h0 (as := []) rfl rfl ⟨rfl, rfl, Nat.le_of_ble_eq_true rfl, Nat.le_of_ble_eq_true rfl⟩ rfl (Nat.le_of_ble_eq_true rfl) ?_
    exact pwI hR dX9_hears_19 hf
  · have hf := it_f c2 hf
    refine G_iload_n h dX9_hears_8 (i := 2) rfl rfl rfl ?_
    refine cl_X9_219 h (ok_X9_isStep hE _  (r := f_X9_isStep E M v2) rfl) dX9_hears_9 (as := [.int v2]) rfl rfl ⟨rfl, rfl, Nat.le_of_ble_eq_true rfl, Nat.le_of_ble_eq_true rfl⟩ rfl (Nat.le_of_ble_eq_true rfl) (fun z4 => ?_)
    refine G_if_ne h dX9_hears_12 (tgt := 20) (by decide) rfl (fun c5 => ?_) (fun c5 => ?_)
    · have hf := it_f c5 hf
      refine G_aload_n h dX9_hears_20 (i := 0) rfl rfl rfl ?_
      refine G_aload_n h dX9_hears_21 (i := 0) rfl rfl rfl ?_
      refine gf_X9_46 h hE dX9_hears_22 h0 rfl ?_
      refine G_iconst h dX9_hears_25 ki_0 rfl ?_
      obtain ⟨x6, hx6, hf⟩ := bd hf
      refine cl_X9_207 h (ok_X9_lays hE _ h0 ((w_8_22 hE h0).2) hx6) dX9_hears_26 h0 (as := [.ref (rr E v0 22), .int (0 : Int32)]) rfl rfl ⟨rfl, rfl, Nat.le_of_ble_eq_true rfl, Nat.le_of_ble_eq_true rfl⟩ rfl (Nat.le_of_ble_eq_true rfl) ?_
      refine G_iconst h dX9_hears_29 ki_0 rfl ?_
      refine G_istore_n h dX9_hears_30 (i := 3) rfl (by decide) (L' := [some (.ref v0), some (.int v1), some (.int v2), some (.int (0 : Int32)), none]) rfl rfl ?_
      exact o_X9_hears_L31 h hE hR  FU _ _ _ _ _ h0 hf
    · have hf := it_t c5 hf
      refine G_aload_n h dX9_hears_15 (i := 0) rfl rfl rfl ?_
      obtain ⟨x7, hx7⟩ : ∃ x, x = f_X9_bad E M v0 := ⟨_, rfl⟩
      have hf := nm_eq hx7 hf
      refine cl_X9_95 h (ok_X9_bad hE _ h0 hx7.symm) dX9_hears_16 h0 (as := []) rfl rfl ⟨rfl, rfl, Nat.le_of_ble_eq_true rfl, Nat.le_of_ble_eq_true rfl⟩ rfl (Nat.le_of_ble_eq_true rfl) ?_
      exact pwI hR dX9_hears_19 hf
def rm_X9_high : Room := { frames := 2, cells := 0, slots := 0, locals := 43 }
def b_X9_high_L20 (E : Env1) (k20 : Mem → Nat → Int32 → Int32 → (Option (Int32 × Mem))) (M : Mem) (v0 : Nat) (v1 : Int32) (v2 : Int32) : Option (Int32 × Mem) :=
  if (8 : Int32) ≤ v2 then (some (v2, M))
  else (
    if v2 = (7 : Int32) then (k20 M v0 v1 (v2 + 1))
    else (
      gd v1 6 (if (f_X9_has E M (mi M (rr E v0 10) (ix v1)) (v2 + (1 : Int32))) = 0 then (some (v2, M))
      else (k20 M v0 v1 (v2 + 1)))))
set_option maxRecDepth 100000 in
set_option maxHeartbeats 4000000 in
theorem ob_X9_high_L20 {X : Ctx} {l0 : Launch} {E : Env1} (h : Cx X l0 E RX9 cX9_high (some .int) 3 rm_X9_high) (hE : WF E) {M' : Mem} {r : Int32} (hR : RetI X E cX9_high r M') {k20 : Mem → Nat → Int32 → Int32 → (Option (Int32 × Mem))} (hk20 : ∀ (M : Mem) (v0 : Nat) (v1 : Int32) (v2 : Int32), isK E v0 8 → k20 M v0 v1 v2 = some (r, M') → G X E (0, 0) 20 [some (.ref v0), some (.int v1), some (.int v2)] [] M) {M : Mem} {v0 : Nat} {v1 : Int32} {v2 : Int32} (h_v0 : isK E v0 8) (hf : b_X9_high_L20 E k20 M v0 v1 v2 = some (r, M')) : G X E (0, 0) 20 [some (.ref v0), some (.int v1), some (.int v2)] [] M := by
  unfold b_X9_high_L20 at hf
  refine G_iload_n h dX9_high_20 (i := 2) rfl rfl rfl ?_
  refine G_bipush h dX9_high_21 kb_8 rfl ?_
  refine G_icmp_ge h dX9_high_23 (tgt := 53) (by decide) rfl (fun c1 => ?_) (fun c1 => ?_)
  · have hf := it_t c1 hf
    refine G_iload_n h dX9_high_53 (i := 2) rfl rfl rfl ?_
    exact pwI hR dX9_high_54 hf
  · have hf := it_f c1 hf
    refine G_iload_n h dX9_high_26 (i := 2) rfl rfl rfl ?_
    refine G_bipush h dX9_high_27 kb_7 rfl ?_
    refine G_icmp_eq h dX9_high_29 (tgt := 47) (by decide) rfl (fun c2 => ?_) (fun c2 => ?_)
    · have hf := it_t c2 hf
      refine G_iinc2 h dX9_high_47 rfl ki_1 (by decide) (L' := [some (.ref v0), some (.int v1), some (.int (v2 + 1))]) rfl rfl ?_
      refine G_goto h dX9_high_50 (tgt := 20) (by decide) ?_
      exact hk20 _ _ _ _ h_v0 hf
    · have hf := it_f c2 hf
      refine G_aload_n h dX9_high_32 (i := 0) rfl rfl rfl ?_
      refine gf_X9_22 h hE dX9_high_33 h_v0 rfl ?_
      refine G_iload_n h dX9_high_36 (i := 1) rfl rfl rfl ?_
      obtain ⟨g3, hf⟩ := gd_some hf
      refine G_iald h dX9_high_37 ((w_8_10 hE h_v0).2) g3 (jx := (ix v1)) rfl rfl ?_
      refine G_iload_n h dX9_high_38 (i := 2) rfl rfl rfl ?_
      refine G_iconst h dX9_high_39 ki_1 rfl ?_
      refine G_iadd h dX9_high_40 rfl ?_
      refine cl_X9_189 h (ok_X9_has hE _  (r := f_X9_has E M (mi M (rr E v0 10) (ix v1)) (v2 + (1 : Int32))) rfl) dX9_high_41 (as := [.int (mi M (rr E v0 10) (ix v1)), .int (v2 + (1 : Int32))]) rfl rfl ⟨rfl, rfl, Nat.le_of_ble_eq_true rfl, Nat.le_of_ble_eq_true rfl⟩ rfl (Nat.le_of_ble_eq_true rfl) (fun z4 => ?_)
      refine G_if_eq h dX9_high_44 (tgt := 53) (by decide) rfl (fun c5 => ?_) (fun c5 => ?_)
      · have hf := it_t c5 hf
        refine G_iload_n h dX9_high_53 (i := 2) rfl rfl rfl ?_
        exact pwI hR dX9_high_54 hf
      · have hf := it_f c5 hf
        refine G_iinc2 h dX9_high_47 rfl ki_1 (by decide) (L' := [some (.ref v0), some (.int v1), some (.int (v2 + 1))]) rfl rfl ?_
        refine G_goto h dX9_high_50 (tgt := 20) (by decide) ?_
        exact hk20 _ _ _ _ h_v0 hf
def f_X9_high_L20 (E : Env1) : Nat → Mem → Nat → Int32 → Int32 → (Option (Int32 × Mem))
  | 0 => fun _ _ _ _ => none
  | n + 1 => b_X9_high_L20 E (f_X9_high_L20 E n)
theorem o_X9_high_L20 {X : Ctx} {l0 : Launch} {E : Env1} (h : Cx X l0 E RX9 cX9_high (some .int) 3 rm_X9_high) (hE : WF E) {M' : Mem} {r : Int32} (hR : RetI X E cX9_high r M') : ∀ (n : Nat) (M : Mem) (v0 : Nat) (v1 : Int32) (v2 : Int32), isK E v0 8 → f_X9_high_L20 E n M v0 v1 v2 = some (r, M') → G X E (0, 0) 20 [some (.ref v0), some (.int v1), some (.int v2)] [] M := by
  intro n
  induction n with
  | zero =>
    intro _ _ _ _ a0 hf
    have h0 : (none : Option (Int32 × Mem)) = some (r, M') := hf
    cases h0
  | succ n ih =>
    intro _ _ _ _ a0 hf
    exact ob_X9_high_L20 h hE hR  ih a0 hf
def f_X9_high (E : Env1) (M : Mem) (v0 : Nat) (v1 : Int32) : Option (Int32 × Mem) :=
  if (f_X9_isOne E M v0 v1) = 0 then (
    nm (f_X9_tenBad E M v0) fun x4 =>
    some (x4.1, x4.2))
  else (gd v1 6 (f_X9_high_L20 E FU M v0 v1 (mi M (rr E v0 9) (ix v1))))
set_option maxRecDepth 100000 in
set_option maxHeartbeats 4000000 in
theorem ok_X9_high {E : Env1} (hE : WF E) (l0 : Launch) {M : Mem} {M' : Mem} {v0 : Nat} {v1 : Int32} {r : Int32} (h0 : isK E v0 8) (hf : f_X9_high E M v0 v1 = some (r, M')) : Met l0 yX9_high (wsA yX9_high cX9_high 3 (some .int)) rm_X9_high (CP E M [.ref v0, .int v1]) (CQi E r M') 0 0 (eA E) := by
  unfold f_X9_high at hf
  refine mtI l0 (by decide +kernel) (Nat.le_of_ble_eq_true rfl) (L0 := [some (.ref v0), some (.int v1), none]) rfl (fun X h hR => ?_)
  refine G_aload_n h dX9_high_0 (i := 0) rfl rfl rfl ?_
  refine G_iload_n h dX9_high_1 (i := 1) rfl rfl rfl ?_
  refine cl_X9_216 h (ok_X9_isOne hE _ h0 (r := f_X9_isOne E M v0 v1) rfl) dX9_high_2 h0 (as := [.int v1]) rfl rfl ⟨rfl, rfl, Nat.le_of_ble_eq_true rfl, Nat.le_of_ble_eq_true rfl⟩ rfl (Nat.le_of_ble_eq_true rfl) (fun z1 => ?_)
  refine G_if_ne h dX9_high_5 (tgt := 13) (by decide) rfl (fun c2 => ?_) (fun c2 => ?_)
  · have hf := it_f c2 hf
    refine G_aload_n h dX9_high_13 (i := 0) rfl rfl rfl ?_
    refine gf_X9_19 h hE dX9_high_14 h0 rfl ?_
    refine G_iload_n h dX9_high_17 (i := 1) rfl rfl rfl ?_
    obtain ⟨g3, hf⟩ := gd_some hf
    refine G_iald h dX9_high_18 ((w_8_9 hE h0).2) g3 (jx := (ix v1)) rfl rfl ?_
    refine G_istore_n h dX9_high_19 (i := 2) rfl (by decide) (L' := [some (.ref v0), some (.int v1), some (.int (mi M (rr E v0 9) (ix v1)))]) rfl rfl ?_
    exact o_X9_high_L20 h hE hR  FU _ _ _ _ h0 hf
  · have hf := it_t c2 hf
    refine G_aload_n h dX9_high_8 (i := 0) rfl rfl rfl ?_
    obtain ⟨x4, hx4⟩ : ∃ x, x = f_X9_tenBad E M v0 := ⟨_, rfl⟩
    have hf := nm_eq hx4 hf
    refine cl_X9_232 h (ok_X9_tenBad hE _ h0 hx4.symm) dX9_high_9 h0 (as := []) rfl rfl ⟨rfl, rfl, Nat.le_of_ble_eq_true rfl, Nat.le_of_ble_eq_true rfl⟩ rfl (Nat.le_of_ble_eq_true rfl) ?_
    exact pwI hR dX9_high_12 hf
def rm_X9_hosts : Room := { frames := 4, cells := 0, slots := 0, locals := 97 }
def f_X9_hosts_L160 (E : Env1) (k91 : Mem → Nat → Int32 → Int32 → Int32 → Int32 → Int32 → Int32 → (Option (Int32 × Mem))) (M : Mem) (v0 : Nat) (v1 : Int32) (v2 : Int32) (v3 : Int32) (v4 : Int32) (v5 : Int32) (v6 : Int32) (s0 : Int32) : Option (Int32 × Mem) :=
  nm (v5 ||| (if s0 = 0 then (0 : Int32) else (1 : Int32) <<< (v6 &&& 31))) fun x2 =>
  k91 M v0 v1 v2 v3 v4 x2 (v6 + 1)
set_option maxRecDepth 100000 in
set_option maxHeartbeats 4000000 in
theorem o_X9_hosts_L160 {X : Ctx} {l0 : Launch} {E : Env1} (h : Cx X l0 E RX9 cX9_hosts (some .int) 8 rm_X9_hosts) (hE : WF E) {M' : Mem} {r : Int32} (hR : RetI X E cX9_hosts r M') {k91 : Mem → Nat → Int32 → Int32 → Int32 → Int32 → Int32 → Int32 → (Option (Int32 × Mem))} (hk91 : ∀ (M : Mem) (v0 : Nat) (v1 : Int32) (v2 : Int32) (v3 : Int32) (v4 : Int32) (v5 : Int32) (v6 : Int32), isK E v0 8 → k91 M v0 v1 v2 v3 v4 v5 v6 = some (r, M') → G X E (0, 0) 91 [some (.ref v0), some (.int v1), some (.int v2), some (.int v3), some (.int v4), some (.int v5), some (.int v6), none] [] M) {M : Mem} {v0 : Nat} {v1 : Int32} {v2 : Int32} {v3 : Int32} {v4 : Int32} {v5 : Int32} {v6 : Int32} {s0 : Int32} (h_v0 : isK E v0 8) (z_s0 : s0 = 0 ∨ s0 = 1) (hf : f_X9_hosts_L160 E k91 M v0 v1 v2 v3 v4 v5 v6 s0 = some (r, M')) : G X E (0, 0) 160 [some (.ref v0), some (.int v1), some (.int v2), some (.int v3), some (.int v4), some (.int v5), some (.int v6), none] [.int s0] M := by
  unfold f_X9_hosts_L160 at hf
  refine G_istore h dX9_hosts_160  (by decide) (L' := [some (.ref v0), some (.int v1), some (.int v2), some (.int v3), some (.int v4), some (.int v5), some (.int v6), some (.int s0)]) rfl rfl ?_
  refine G_iload h dX9_hosts_162 rfl rfl ?_
  refine G_iload h dX9_hosts_164 rfl rfl ?_
  have hJ : G X E (0, 0) 177 [some (.ref v0), some (.int v1), some (.int v2), some (.int v3), some (.int v4), some (.int v5), some (.int v6), some (.int s0)] [.int (if s0 = 0 then (0 : Int32) else (1 : Int32) <<< (v6 &&& 31)), .int v5] M := by
    refine G_ior h dX9_hosts_177 rfl ?_
    refine G_nmi (fun x2 hx2 => ?_)
    have hf := nm_eq hx2 hf
    refine G_istore h dX9_hosts_178  (by decide) (L' := [some (.ref v0), some (.int v1), some (.int v2), some (.int v3), some (.int v4), some (.int x2), some (.int v6), some (.int s0)]) rfl rfl ?_
    refine G_iinc2 h dX9_hosts_180 rfl ki_1 (by decide) (L' := [some (.ref v0), some (.int v1), some (.int v2), some (.int v3), some (.int v4), some (.int x2), some (.int (v6 + 1)), some (.int s0)]) rfl rfl ?_
    refine G_goto h dX9_hosts_183 (tgt := 91) (by decide) ?_
    refine G_mskL [true, true, true, true, true, true, true, false] (L' := [some (.ref v0), some (.int v1), some (.int v2), some (.int v3), some (.int v4), some (.int x2), some (.int (v6 + 1)), none]) rfl ?_
    exact hk91 _ _ _ _ _ _ _ _ h_v0 hf
  refine G_if_eq h dX9_hosts_166 (tgt := 176) (by decide) rfl (fun c1 => ?_) (fun c1 => ?_)
  · refine G_iconst h dX9_hosts_176 ki_0 rfl ?_
    exact G_ifp c1 hJ
  · refine G_iconst h dX9_hosts_169 ki_1 rfl ?_
    refine G_iload h dX9_hosts_170 rfl rfl ?_
    refine G_ishl h dX9_hosts_172 rfl ?_
    refine G_goto h dX9_hosts_173 (tgt := 177) (by decide) ?_
    exact G_ifn c1 hJ
def b_X9_hosts_L91 (E : Env1) (k91 : Mem → Nat → Int32 → Int32 → Int32 → Int32 → Int32 → Int32 → (Option (Int32 × Mem))) (M : Mem) (v0 : Nat) (v1 : Int32) (v2 : Int32) (v3 : Int32) (v4 : Int32) (v5 : Int32) (v6 : Int32) : Option (Int32 × Mem) :=
  if (4 : Int32) ≤ v6 then (some (v5, M))
  else (
    (f_X9_gets E M v0 v1 v2 v3 v4 v6 (0 : Int32)).bind fun x2 =>
    (f_X9_gets E M v0 v1 v2 v3 v4 (v6 ^^^ (1 : Int32)) (0 : Int32)).bind fun x3 =>
    if x2 < x3 then (f_X9_hosts_L160 E k91 M v0 v1 v2 v3 v4 v5 v6 (0 : Int32))
    else (
      (f_X9_gets E M v0 v1 v2 v3 v4 v6 (1 : Int32)).bind fun x5 =>
      (f_X9_gets E M v0 v1 v2 v3 v4 (v6 ^^^ (2 : Int32)) (1 : Int32)).bind fun x6 =>
      if x5 < x6 then (f_X9_hosts_L160 E k91 M v0 v1 v2 v3 v4 v5 v6 (0 : Int32))
      else (f_X9_hosts_L160 E k91 M v0 v1 v2 v3 v4 v5 v6 (1 : Int32))))
set_option maxRecDepth 100000 in
set_option maxHeartbeats 4000000 in
theorem ob_X9_hosts_L91 {X : Ctx} {l0 : Launch} {E : Env1} (h : Cx X l0 E RX9 cX9_hosts (some .int) 8 rm_X9_hosts) (hE : WF E) {M' : Mem} {r : Int32} (hR : RetI X E cX9_hosts r M') {k91 : Mem → Nat → Int32 → Int32 → Int32 → Int32 → Int32 → Int32 → (Option (Int32 × Mem))} (hk91 : ∀ (M : Mem) (v0 : Nat) (v1 : Int32) (v2 : Int32) (v3 : Int32) (v4 : Int32) (v5 : Int32) (v6 : Int32), isK E v0 8 → k91 M v0 v1 v2 v3 v4 v5 v6 = some (r, M') → G X E (0, 0) 91 [some (.ref v0), some (.int v1), some (.int v2), some (.int v3), some (.int v4), some (.int v5), some (.int v6), none] [] M) {M : Mem} {v0 : Nat} {v1 : Int32} {v2 : Int32} {v3 : Int32} {v4 : Int32} {v5 : Int32} {v6 : Int32} (h_v0 : isK E v0 8) (hf : b_X9_hosts_L91 E k91 M v0 v1 v2 v3 v4 v5 v6 = some (r, M')) : G X E (0, 0) 91 [some (.ref v0), some (.int v1), some (.int v2), some (.int v3), some (.int v4), some (.int v5), some (.int v6), none] [] M := by
  unfold b_X9_hosts_L91 at hf
  refine G_iload h dX9_hosts_91 rfl rfl ?_
  refine G_iconst h dX9_hosts_93 ki_4 rfl ?_
  refine G_icmp_ge h dX9_hosts_94 (tgt := 186) (by decide) rfl (fun c1 => ?_) (fun c1 => ?_)
  · have hf := it_t c1 hf
    refine G_iload h dX9_hosts_186 rfl rfl ?_
    exact pwI hR dX9_hosts_188 hf
  · have hf := it_f c1 hf
    refine G_aload_n h dX9_hosts_97 (i := 0) rfl rfl rfl ?_
    refine G_iload_n h dX9_hosts_98 (i := 1) rfl rfl rfl ?_
    refine G_iload_n h dX9_hosts_99 (i := 2) rfl rfl rfl ?_
    refine G_iload_n h dX9_hosts_100 (i := 3) rfl rfl rfl ?_
    refine G_iload h dX9_hosts_101 rfl rfl ?_
    refine G_iload h dX9_hosts_103 rfl rfl ?_
    refine G_iconst h dX9_hosts_105 ki_0 rfl ?_
    obtain ⟨x2, hx2, hf⟩ := bd hf
    refine cl_X9_270 h (ok_X9_gets hE _ h_v0 hx2) dX9_hosts_106 h_v0 (as := [.int v1, .int v2, .int v3, .int v4, .int v6, .int (0 : Int32)]) rfl rfl ⟨rfl, rfl, Nat.le_of_ble_eq_true rfl, Nat.le_of_ble_eq_true rfl⟩ rfl (Nat.le_of_ble_eq_true rfl) ?_
    refine G_aload_n h dX9_hosts_109 (i := 0) rfl rfl rfl ?_
    refine G_iload_n h dX9_hosts_110 (i := 1) rfl rfl rfl ?_
    refine G_iload_n h dX9_hosts_111 (i := 2) rfl rfl rfl ?_
    refine G_iload_n h dX9_hosts_112 (i := 3) rfl rfl rfl ?_
    refine G_iload h dX9_hosts_113 rfl rfl ?_
    refine G_iload h dX9_hosts_115 rfl rfl ?_
    refine G_iconst h dX9_hosts_117 ki_1 rfl ?_
    refine G_ixor h dX9_hosts_118 rfl ?_
    refine G_iconst h dX9_hosts_119 ki_0 rfl ?_
    obtain ⟨x3, hx3, hf⟩ := bd hf
    refine cl_X9_270 h (ok_X9_gets hE _ h_v0 hx3) dX9_hosts_120 h_v0 (as := [.int v1, .int v2, .int v3, .int v4, .int (v6 ^^^ (1 : Int32)), .int (0 : Int32)]) rfl rfl ⟨rfl, rfl, Nat.le_of_ble_eq_true rfl, Nat.le_of_ble_eq_true rfl⟩ rfl (Nat.le_of_ble_eq_true rfl) ?_
    refine G_icmp_lt h dX9_hosts_123 (tgt := 159) (by decide) rfl (fun c4 => ?_) (fun c4 => ?_)
    · have hf := it_t c4 hf
      refine G_iconst h dX9_hosts_159 ki_0 rfl ?_
      exact o_X9_hosts_L160 h hE hR hk91 h_v0 (Or.inl rfl) hf
    · have hf := it_f c4 hf
      refine G_aload_n h dX9_hosts_126 (i := 0) rfl rfl rfl ?_
      refine G_iload_n h dX9_hosts_127 (i := 1) rfl rfl rfl ?_
      refine G_iload_n h dX9_hosts_128 (i := 2) rfl rfl rfl ?_
      refine G_iload_n h dX9_hosts_129 (i := 3) rfl rfl rfl ?_
      refine G_iload h dX9_hosts_130 rfl rfl ?_
      refine G_iload h dX9_hosts_132 rfl rfl ?_
      refine G_iconst h dX9_hosts_134 ki_1 rfl ?_
      obtain ⟨x5, hx5, hf⟩ := bd hf
      refine cl_X9_270 h (ok_X9_gets hE _ h_v0 hx5) dX9_hosts_135 h_v0 (as := [.int v1, .int v2, .int v3, .int v4, .int v6, .int (1 : Int32)]) rfl rfl ⟨rfl, rfl, Nat.le_of_ble_eq_true rfl, Nat.le_of_ble_eq_true rfl⟩ rfl (Nat.le_of_ble_eq_true rfl) ?_
      refine G_aload_n h dX9_hosts_138 (i := 0) rfl rfl rfl ?_
      refine G_iload_n h dX9_hosts_139 (i := 1) rfl rfl rfl ?_
      refine G_iload_n h dX9_hosts_140 (i := 2) rfl rfl rfl ?_
      refine G_iload_n h dX9_hosts_141 (i := 3) rfl rfl rfl ?_
      refine G_iload h dX9_hosts_142 rfl rfl ?_
      refine G_iload h dX9_hosts_144 rfl rfl ?_
      refine G_iconst h dX9_hosts_146 ki_2 rfl ?_
      refine G_ixor h dX9_hosts_147 rfl ?_
      refine G_iconst h dX9_hosts_148 ki_1 rfl ?_
      obtain ⟨x6, hx6, hf⟩ := bd hf
      refine cl_X9_270 h (ok_X9_gets hE _ h_v0 hx6) dX9_hosts_149 h_v0 (as := [.int v1, .int v2, .int v3, .int v4, .int (v6 ^^^ (2 : Int32)), .int (1 : Int32)]) rfl rfl ⟨rfl, rfl, Nat.le_of_ble_eq_true rfl, Nat.le_of_ble_eq_true rfl⟩ rfl (Nat.le_of_ble_eq_true rfl) ?_
      refine G_icmp_lt h dX9_hosts_152 (tgt := 159) (by decide) rfl (fun c7 => ?_) (fun c7 => ?_)
      · have hf := it_t c7 hf
        refine G_iconst h dX9_hosts_159 ki_0 rfl ?_
        exact o_X9_hosts_L160 h hE hR hk91 h_v0 (Or.inl rfl) hf
      · have hf := it_f c7 hf
        refine G_iconst h dX9_hosts_155 ki_1 rfl ?_
        refine G_goto h dX9_hosts_156 (tgt := 160) (by decide) ?_
        exact o_X9_hosts_L160 h hE hR hk91 h_v0 (Or.inr rfl) hf
def f_X9_hosts_L91 (E : Env1) : Nat → Mem → Nat → Int32 → Int32 → Int32 → Int32 → Int32 → Int32 → (Option (Int32 × Mem))
  | 0 => fun _ _ _ _ _ _ _ _ => none
  | n + 1 => b_X9_hosts_L91 E (f_X9_hosts_L91 E n)
theorem o_X9_hosts_L91 {X : Ctx} {l0 : Launch} {E : Env1} (h : Cx X l0 E RX9 cX9_hosts (some .int) 8 rm_X9_hosts) (hE : WF E) {M' : Mem} {r : Int32} (hR : RetI X E cX9_hosts r M') : ∀ (n : Nat) (M : Mem) (v0 : Nat) (v1 : Int32) (v2 : Int32) (v3 : Int32) (v4 : Int32) (v5 : Int32) (v6 : Int32), isK E v0 8 → f_X9_hosts_L91 E n M v0 v1 v2 v3 v4 v5 v6 = some (r, M') → G X E (0, 0) 91 [some (.ref v0), some (.int v1), some (.int v2), some (.int v3), some (.int v4), some (.int v5), some (.int v6), none] [] M := by
  intro n
  induction n with
  | zero =>
    intro _ _ _ _ _ _ _ _ a0 hf
    have h0 : (none : Option (Int32 × Mem)) = some (r, M') := hf
    cases h0
  | succ n ih =>
    intro _ _ _ _ _ _ _ _ a0 hf
    exact ob_X9_hosts_L91 h hE hR  ih a0 hf
def f_X9_hosts (E : Env1) (M : Mem) (v0 : Nat) (v1 : Int32) (v2 : Int32) (v3 : Int32) (v4 : Int32) : Option (Int32 × Mem) :=
  if (f_X9_isOne E M v0 v1) = 0 then (
    nm (f_X9_bad E M v0) fun x3 =>
    some (x3.1, x3.2))
  else (
    if (f_X9_isOne E M v0 v2) = 0 then (
      nm (f_X9_bad E M v0) fun x6 =>
      some (x6.1, x6.2))
    else (
      if (f_X9_isOne E M v0 v3) = 0 then (
        nm (f_X9_bad E M v0) fun x9 =>
        some (x9.1, x9.2))
      else (
        if (f_X9_isStep E M v4) = 0 then (
          nm (f_X9_bad E M v0) fun x12 =>
          some (x12.1, x12.2))
        else (
          if v1 = v2 then (
            nm (f_X9_bad E M v0) fun x14 =>
            some (x14.1, x14.2))
          else (
            if v1 = v3 then (
              nm (f_X9_bad E M v0) fun x16 =>
              some (x16.1, x16.2))
            else (
              if v2 = v3 then (
                nm (f_X9_bad E M v0) fun x26 =>
                some (x26.1, x26.2))
              else (
                gd v1 6 (if (f_X9_has E M (mi M (rr E v0 10) (ix v1)) v4) = 0 then (
                  nm (f_X9_no E M v0) fun x21 =>
                  some (x21.1, x21.2))
                else (
                  gd v2 6 (if (f_X9_has E M (mi M (rr E v0 10) (ix v2)) v4) = 0 then (
                    nm (f_X9_no E M v0) fun x25 =>
                    some (x25.1, x25.2))
                  else (f_X9_hosts_L91 E FU M v0 v1 v2 v3 v4 (0 : Int32) (0 : Int32))))))))))))
set_option maxRecDepth 100000 in
set_option maxHeartbeats 4000000 in
theorem ok_X9_hosts {E : Env1} (hE : WF E) (l0 : Launch) {M : Mem} {M' : Mem} {v0 : Nat} {v1 : Int32} {v2 : Int32} {v3 : Int32} {v4 : Int32} {r : Int32} (h0 : isK E v0 8) (hf : f_X9_hosts E M v0 v1 v2 v3 v4 = some (r, M')) : Met l0 yX9_hosts (wsA yX9_hosts cX9_hosts 8 (some .int)) rm_X9_hosts (CP E M [.ref v0, .int v1, .int v2, .int v3, .int v4]) (CQi E r M') 0 0 (eA E) := by
  unfold f_X9_hosts at hf
  refine mtI l0 (by decide +kernel) (Nat.le_of_ble_eq_true rfl) (L0 := [some (.ref v0), some (.int v1), some (.int v2), some (.int v3), some (.int v4), none, none, none]) rfl (fun X h hR => ?_)
  refine G_aload_n h dX9_hosts_0 (i := 0) rfl rfl rfl ?_
  refine G_iload_n h dX9_hosts_1 (i := 1) rfl rfl rfl ?_
  refine cl_X9_216 h (ok_X9_isOne hE _ h0 (r := f_X9_isOne E M v0 v1) rfl) dX9_hosts_2 h0 (as := [.int v1]) rfl rfl ⟨rfl, rfl, Nat.le_of_ble_eq_true rfl, Nat.le_of_ble_eq_true rfl⟩ rfl (Nat.le_of_ble_eq_true rfl) (fun z1 => ?_)
  refine G_if_eq h dX9_hosts_5 (tgt := 47) (by decide) rfl (fun c2 => ?_) (fun c2 => ?_)
  · have hf := it_t c2 hf
    refine G_aload_n h dX9_hosts_47 (i := 0) rfl rfl rfl ?_
    obtain ⟨x3, hx3⟩ : ∃ x, x = f_X9_bad E M v0 := ⟨_, rfl⟩
    have hf := nm_eq hx3 hf
    refine cl_X9_95 h (ok_X9_bad hE _ h0 hx3.symm) dX9_hosts_48 h0 (as := []) rfl rfl ⟨rfl, rfl, Nat.le_of_ble_eq_true rfl, Nat.le_of_ble_eq_true rfl⟩ rfl (Nat.le_of_ble_eq_true rfl) ?_
    exact pwI hR dX9_hosts_51 hf
  · have hf := it_f c2 hf
    refine G_aload_n h dX9_hosts_8 (i := 0) rfl rfl rfl ?_
    refine G_iload_n h dX9_hosts_9 (i := 2) rfl rfl rfl ?_
    refine cl_X9_216 h (ok_X9_isOne hE _ h0 (r := f_X9_isOne E M v0 v2) rfl) dX9_hosts_10 h0 (as := [.int v2]) rfl rfl ⟨rfl, rfl, Nat.le_of_ble_eq_true rfl, Nat.le_of_ble_eq_true rfl⟩ rfl (Nat.le_of_ble_eq_true rfl) (fun z4 => ?_)
    refine G_if_eq h dX9_hosts_13 (tgt := 47) (by decide) rfl (fun c5 => ?_) (fun c5 => ?_)
    · have hf := it_t c5 hf
      refine G_aload_n h dX9_hosts_47 (i := 0) rfl rfl rfl ?_
      obtain ⟨x6, hx6⟩ : ∃ x, x = f_X9_bad E M v0 := ⟨_, rfl⟩
      have hf := nm_eq hx6 hf
      refine cl_X9_95 h (ok_X9_bad hE _ h0 hx6.symm) dX9_hosts_48 h0 (as := []) rfl rfl ⟨rfl, rfl, Nat.le_of_ble_eq_true rfl, Nat.le_of_ble_eq_true rfl⟩ rfl (Nat.le_of_ble_eq_true rfl) ?_
      exact pwI hR dX9_hosts_51 hf
    · have hf := it_f c5 hf
      refine G_aload_n h dX9_hosts_16 (i := 0) rfl rfl rfl ?_
      refine G_iload_n h dX9_hosts_17 (i := 3) rfl rfl rfl ?_
      refine cl_X9_216 h (ok_X9_isOne hE _ h0 (r := f_X9_isOne E M v0 v3) rfl) dX9_hosts_18 h0 (as := [.int v3]) rfl rfl ⟨rfl, rfl, Nat.le_of_ble_eq_true rfl, Nat.le_of_ble_eq_true rfl⟩ rfl (Nat.le_of_ble_eq_true rfl) (fun z7 => ?_)
      refine G_if_eq h dX9_hosts_21 (tgt := 47) (by decide) rfl (fun c8 => ?_) (fun c8 => ?_)
      · have hf := it_t c8 hf
        refine G_aload_n h dX9_hosts_47 (i := 0) rfl rfl rfl ?_
        obtain ⟨x9, hx9⟩ : ∃ x, x = f_X9_bad E M v0 := ⟨_, rfl⟩
        have hf := nm_eq hx9 hf
        refine cl_X9_95 h (ok_X9_bad hE _ h0 hx9.symm) dX9_hosts_48 h0 (as := []) rfl rfl ⟨rfl, rfl, Nat.le_of_ble_eq_true rfl, Nat.le_of_ble_eq_true rfl⟩ rfl (Nat.le_of_ble_eq_true rfl) ?_
        exact pwI hR dX9_hosts_51 hf
      · have hf := it_f c8 hf
        refine G_iload h dX9_hosts_24 rfl rfl ?_
        refine cl_X9_219 h (ok_X9_isStep hE _  (r := f_X9_isStep E M v4) rfl) dX9_hosts_26 (as := [.int v4]) rfl rfl ⟨rfl, rfl, Nat.le_of_ble_eq_true rfl, Nat.le_of_ble_eq_true rfl⟩ rfl (Nat.le_of_ble_eq_true rfl) (fun z10 => ?_)
        refine G_if_eq h dX9_hosts_29 (tgt := 47) (by decide) rfl (fun c11 => ?_) (fun c11 => ?_)
        · have hf := it_t c11 hf
          refine G_aload_n h dX9_hosts_47 (i := 0) rfl rfl rfl ?_
          obtain ⟨x12, hx12⟩ : ∃ x, x = f_X9_bad E M v0 := ⟨_, rfl⟩
          have hf := nm_eq hx12 hf
          refine cl_X9_95 h (ok_X9_bad hE _ h0 hx12.symm) dX9_hosts_48 h0 (as := []) rfl rfl ⟨rfl, rfl, Nat.le_of_ble_eq_true rfl, Nat.le_of_ble_eq_true rfl⟩ rfl (Nat.le_of_ble_eq_true rfl) ?_
          exact pwI hR dX9_hosts_51 hf
        · have hf := it_f c11 hf
          refine G_iload_n h dX9_hosts_32 (i := 1) rfl rfl rfl ?_
          refine G_iload_n h dX9_hosts_33 (i := 2) rfl rfl rfl ?_
          refine G_icmp_eq h dX9_hosts_34 (tgt := 47) (by decide) rfl (fun c13 => ?_) (fun c13 => ?_)
          · have hf := it_t c13 hf
            refine G_aload_n h dX9_hosts_47 (i := 0) rfl rfl rfl ?_
            obtain ⟨x14, hx14⟩ : ∃ x, x = f_X9_bad E M v0 := ⟨_, rfl⟩
            have hf := nm_eq hx14 hf
            refine cl_X9_95 h (ok_X9_bad hE _ h0 hx14.symm) dX9_hosts_48 h0 (as := []) rfl rfl ⟨rfl, rfl, Nat.le_of_ble_eq_true rfl, Nat.le_of_ble_eq_true rfl⟩ rfl (Nat.le_of_ble_eq_true rfl) ?_
            exact pwI hR dX9_hosts_51 hf
          · have hf := it_f c13 hf
            refine G_iload_n h dX9_hosts_37 (i := 1) rfl rfl rfl ?_
            refine G_iload_n h dX9_hosts_38 (i := 3) rfl rfl rfl ?_
            refine G_icmp_eq h dX9_hosts_39 (tgt := 47) (by decide) rfl (fun c15 => ?_) (fun c15 => ?_)
            · have hf := it_t c15 hf
              refine G_aload_n h dX9_hosts_47 (i := 0) rfl rfl rfl ?_
              obtain ⟨x16, hx16⟩ : ∃ x, x = f_X9_bad E M v0 := ⟨_, rfl⟩
              have hf := nm_eq hx16 hf
              refine cl_X9_95 h (ok_X9_bad hE _ h0 hx16.symm) dX9_hosts_48 h0 (as := []) rfl rfl ⟨rfl, rfl, Nat.le_of_ble_eq_true rfl, Nat.le_of_ble_eq_true rfl⟩ rfl (Nat.le_of_ble_eq_true rfl) ?_
              exact pwI hR dX9_hosts_51 hf
            · have hf := it_f c15 hf
              refine G_iload_n h dX9_hosts_42 (i := 2) rfl rfl rfl ?_
              refine G_iload_n h dX9_hosts_43 (i := 3) rfl rfl rfl ?_
              refine G_icmp_ne h dX9_hosts_44 (tgt := 52) (by decide) rfl (fun c17 => ?_) (fun c17 => ?_)
              · have hf := it_f c17 hf
                refine G_aload_n h dX9_hosts_52 (i := 0) rfl rfl rfl ?_
                refine gf_X9_22 h hE dX9_hosts_53 h0 rfl ?_
                refine G_iload_n h dX9_hosts_56 (i := 1) rfl rfl rfl ?_
                obtain ⟨g18, hf⟩ := gd_some hf
                refine G_iald h dX9_hosts_57 ((w_8_10 hE h0).2) g18 (jx := (ix v1)) rfl rfl ?_
                refine G_iload h dX9_hosts_58 rfl rfl ?_
                refine cl_X9_189 h (ok_X9_has hE _  (r := f_X9_has E M (mi M (rr E v0 10) (ix v1)) v4) rfl) dX9_hosts_60 (as := [.int (mi M (rr E v0 10) (ix v1)), .int v4]) rfl rfl ⟨rfl, rfl, Nat.le_of_ble_eq_true rfl, Nat.le_of_ble_eq_true rfl⟩ rfl (Nat.le_of_ble_eq_true rfl) (fun z19 => ?_)
                refine G_if_eq h dX9_hosts_63 (tgt := 80) (by decide) rfl (fun c20 => ?_) (fun c20 => ?_)
                · have hf := it_t c20 hf
                  refine G_aload_n h dX9_hosts_80 (i := 0) rfl rfl rfl ?_
                  obtain ⟨x21, hx21⟩ : ∃ x, x = f_X9_no E M v0 := ⟨_, rfl⟩
                  have hf := nm_eq hx21 hf
                  refine cl_X9_222 h (ok_X9_no hE _ h0 hx21.symm) dX9_hosts_81 h0 (as := []) rfl rfl ⟨rfl, rfl, Nat.le_of_ble_eq_true rfl, Nat.le_of_ble_eq_true rfl⟩ rfl (Nat.le_of_ble_eq_true rfl) ?_
                  exact pwI hR dX9_hosts_84 hf
                · have hf := it_f c20 hf
                  refine G_aload_n h dX9_hosts_66 (i := 0) rfl rfl rfl ?_
                  refine gf_X9_22 h hE dX9_hosts_67 h0 rfl ?_
                  refine G_iload_n h dX9_hosts_70 (i := 2) rfl rfl rfl ?_
                  obtain ⟨g22, hf⟩ := gd_some hf
                  refine G_iald h dX9_hosts_71 ((w_8_10 hE h0).2) g22 (jx := (ix v2)) rfl rfl ?_
                  refine G_iload h dX9_hosts_72 rfl rfl ?_
                  refine cl_X9_189 h (ok_X9_has hE _  (r := f_X9_has E M (mi M (rr E v0 10) (ix v2)) v4) rfl) dX9_hosts_74 (as := [.int (mi M (rr E v0 10) (ix v2)), .int v4]) rfl rfl ⟨rfl, rfl, Nat.le_of_ble_eq_true rfl, Nat.le_of_ble_eq_true rfl⟩ rfl (Nat.le_of_ble_eq_true rfl) (fun z23 => ?_)
                  refine G_if_ne h dX9_hosts_77 (tgt := 85) (by decide) rfl (fun c24 => ?_) (fun c24 => ?_)
                  · have hf := it_f c24 hf
                    refine G_iconst h dX9_hosts_85 ki_0 rfl ?_
                    refine G_istore h dX9_hosts_86  (by decide) (L' := [some (.ref v0), some (.int v1), some (.int v2), some (.int v3), some (.int v4), some (.int (0 : Int32)), none, none]) rfl rfl ?_
                    refine G_iconst h dX9_hosts_88 ki_0 rfl ?_
                    refine G_istore h dX9_hosts_89  (by decide) (L' := [some (.ref v0), some (.int v1), some (.int v2), some (.int v3), some (.int v4), some (.int (0 : Int32)), some (.int (0 : Int32)), none]) rfl rfl ?_
                    exact o_X9_hosts_L91 h hE hR  FU _ _ _ _ _ _ _ _ h0 hf
                  · have hf := it_t c24 hf
                    refine G_aload_n h dX9_hosts_80 (i := 0) rfl rfl rfl ?_
                    obtain ⟨x25, hx25⟩ : ∃ x, x = f_X9_no E M v0 := ⟨_, rfl⟩
                    have hf := nm_eq hx25 hf
                    refine cl_X9_222 h (ok_X9_no hE _ h0 hx25.symm) dX9_hosts_81 h0 (as := []) rfl rfl ⟨rfl, rfl, Nat.le_of_ble_eq_true rfl, Nat.le_of_ble_eq_true rfl⟩ rfl (Nat.le_of_ble_eq_true rfl) ?_
                    exact pwI hR dX9_hosts_84 hf
              · have hf := it_t c17 hf
                refine G_aload_n h dX9_hosts_47 (i := 0) rfl rfl rfl ?_
                obtain ⟨x26, hx26⟩ : ∃ x, x = f_X9_bad E M v0 := ⟨_, rfl⟩
                have hf := nm_eq hx26 hf
                refine cl_X9_95 h (ok_X9_bad hE _ h0 hx26.symm) dX9_hosts_48 h0 (as := []) rfl rfl ⟨rfl, rfl, Nat.le_of_ble_eq_true rfl, Nat.le_of_ble_eq_true rfl⟩ rfl (Nat.le_of_ble_eq_true rfl) ?_
                exact pwI hR dX9_hosts_51 hf
def rm_X9_house : Room := { frames := 1, cells := 0, slots := 0, locals := 21 }
def f_X9_house (E : Env1) (M : Mem) (v0 : Nat) : Option (Int32 × Mem) :=
  (f_X9_begin E M v0).bind fun x1 =>
  some (mi M v0 1, x1)
set_option maxRecDepth 100000 in
set_option maxHeartbeats 4000000 in
theorem ok_X9_house {E : Env1} (hE : WF E) (l0 : Launch) {M : Mem} {M' : Mem} {v0 : Nat} {r : Int32} (h0 : isK E v0 8) (hf : f_X9_house E M v0 = some (r, M')) : Met l0 yX9_house (wsA yX9_house cX9_house 2 (some .int)) rm_X9_house (CP E M [.ref v0]) (CQi E r M') 0 0 (eA E) := by
  unfold f_X9_house at hf
  refine mtI l0 (by decide +kernel) (Nat.le_of_ble_eq_true rfl) (L0 := [some (.ref v0), none]) rfl (fun X h hR => ?_)
  refine G_aload_n h dX9_house_0 (i := 0) rfl rfl rfl ?_
  refine gf_X9_69 h dX9_house_1 h0 rfl ?_
  refine G_istore_n h dX9_house_4 (i := 1) rfl (by decide) (L' := [some (.ref v0), some (.int (mi M v0 1))]) rfl rfl ?_
  refine G_aload_n h dX9_house_5 (i := 0) rfl rfl rfl ?_
  obtain ⟨x1, hx1, hf⟩ := bd hf
  refine cl_X9_66 h (ok_X9_begin hE _ h0 hx1) dX9_house_6 h0 (as := []) rfl rfl ⟨rfl, rfl, Nat.le_of_ble_eq_true rfl, Nat.le_of_ble_eq_true rfl⟩ rfl (Nat.le_of_ble_eq_true rfl) ?_
  refine G_iload_n h dX9_house_9 (i := 1) rfl rfl rfl ?_
  exact pwI hR dX9_house_10 hf
def rm_X9_layAll : Room := { frames := 1, cells := 0, slots := 0, locals := 23 }
def b_X9_layAll_L170 (E : Env1) (n1 : Nat) (k170 : Mem → Nat → Nat → Int32 → Int32 → (Option (Mem))) (M : Mem) (v0 : Nat) (v1 : Nat) (v2 : Int32) (v3 : Int32) : Option (Mem) :=
  if (176 : Int32) ≤ v3 then (some M)
  else (gd v3 176 (gd ((v2 + (105 : Int32)) + v3) n1 (k170 (wi M v1 (ix ((v2 + (105 : Int32)) + v3)) (mi M (rr E v0 20) (ix v3))) v0 v1 v2 (v3 + 1))))
set_option maxRecDepth 100000 in
set_option maxHeartbeats 4000000 in
theorem ob_X9_layAll_L170 {X : Ctx} {l0 : Launch} {E : Env1} (h : Cx X l0 E RX9 cX9_layAll none 4 rm_X9_layAll) (hE : WF E) {M' : Mem} {n1 : Nat} (hR : RetV X E cX9_layAll M') {k170 : Mem → Nat → Nat → Int32 → Int32 → (Option (Mem))} (hk170 : ∀ (M : Mem) (v0 : Nat) (v1 : Nat) (v2 : Int32) (v3 : Int32), isK E v0 8 → isA E v1 9 n1 → k170 M v0 v1 v2 v3 = some (M') → G X E (0, 0) 170 [some (.ref v0), some (.ref v1), some (.int v2), some (.int v3)] [] M) {M : Mem} {v0 : Nat} {v1 : Nat} {v2 : Int32} {v3 : Int32} (h_v0 : isK E v0 8) (h_v1 : isA E v1 9 n1) (hf : b_X9_layAll_L170 E n1 k170 M v0 v1 v2 v3 = some (M')) : G X E (0, 0) 170 [some (.ref v0), some (.ref v1), some (.int v2), some (.int v3)] [] M := by
  unfold b_X9_layAll_L170 at hf
  refine G_iload_n h dX9_layAll_170 (i := 3) rfl rfl rfl ?_
  refine G_sipush h dX9_layAll_171 ks_176 rfl ?_
  refine G_icmp_ge h dX9_layAll_174 (tgt := 197) (by decide) rfl (fun c1 => ?_) (fun c1 => ?_)
  · have hf := it_t c1 hf
    exact pwV hR dX9_layAll_197 hf
  · have hf := it_f c1 hf
    refine G_aload_n h dX9_layAll_177 (i := 1) rfl rfl rfl ?_
    refine G_iload_n h dX9_layAll_178 (i := 2) rfl rfl rfl ?_
    refine G_bipush h dX9_layAll_179 kb_105 rfl ?_
    refine G_iadd h dX9_layAll_181 rfl ?_
    refine G_iload_n h dX9_layAll_182 (i := 3) rfl rfl rfl ?_
    refine G_iadd h dX9_layAll_183 rfl ?_
    refine G_aload_n h dX9_layAll_184 (i := 0) rfl rfl rfl ?_
    refine gf_X9_43 h hE dX9_layAll_185 h_v0 rfl ?_
    refine G_iload_n h dX9_layAll_188 (i := 3) rfl rfl rfl ?_
    obtain ⟨g2, hf⟩ := gd_some hf
    refine G_iald h dX9_layAll_189 ((w_8_20 hE h_v0).2) g2 (jx := (ix v3)) rfl rfl ?_
    obtain ⟨g3, hf⟩ := gd_some hf
    refine G_iast h dX9_layAll_190 h_v1 g3 (jx := (ix ((v2 + (105 : Int32)) + v3))) rfl rfl ?_
    refine G_iinc2 h dX9_layAll_191 rfl ki_1 (by decide) (L' := [some (.ref v0), some (.ref v1), some (.int v2), some (.int (v3 + 1))]) rfl rfl ?_
    refine G_goto h dX9_layAll_194 (tgt := 170) (by decide) ?_
    exact hk170 _ _ _ _ _ h_v0 h_v1 hf
def f_X9_layAll_L170 (E : Env1) (n1 : Nat) : Nat → Mem → Nat → Nat → Int32 → Int32 → (Option (Mem))
  | 0 => fun _ _ _ _ _ => none
  | n + 1 => b_X9_layAll_L170 E n1 (f_X9_layAll_L170 E n1 n)
theorem o_X9_layAll_L170 {X : Ctx} {l0 : Launch} {E : Env1} (h : Cx X l0 E RX9 cX9_layAll none 4 rm_X9_layAll) (hE : WF E) {M' : Mem} {n1 : Nat} (hR : RetV X E cX9_layAll M') : ∀ (n : Nat) (M : Mem) (v0 : Nat) (v1 : Nat) (v2 : Int32) (v3 : Int32), isK E v0 8 → isA E v1 9 n1 → f_X9_layAll_L170 E n1 n M v0 v1 v2 v3 = some (M') → G X E (0, 0) 170 [some (.ref v0), some (.ref v1), some (.int v2), some (.int v3)] [] M := by
  intro n
  induction n with
  | zero =>
    intro _ _ _ _ _ a0 a1 hf
    have h0 : (none : Option (Mem)) = some (M') := hf
    cases h0
  | succ n ih =>
    intro _ _ _ _ _ a0 a1 hf
    exact ob_X9_layAll_L170 h hE hR  ih a0 a1 hf
def b_X9_layAll_L128 (E : Env1) (n1 : Nat) (k128 : Mem → Nat → Nat → Int32 → Int32 → (Option (Mem))) (M : Mem) (v0 : Nat) (v1 : Nat) (v2 : Int32) (v3 : Int32) : Option (Mem) :=
  if (24 : Int32) ≤ v3 then (f_X9_layAll_L170 E n1 FU M v0 v1 v2 (0 : Int32))
  else (
    gd v3 24 (gd ((v2 + (57 : Int32)) + v3) n1 (gd ((v2 + (81 : Int32)) + v3) n1 (nm (wi (wi M v1 (ix ((v2 + (57 : Int32)) + v3)) (mi M (rr E v0 13) (ix v3))) v1 (ix ((v2 + (81 : Int32)) + v3)) (mi (wi M v1 (ix ((v2 + (57 : Int32)) + v3)) (mi M (rr E v0 13) (ix v3))) (rr E v0 14) (ix v3))) fun M5 =>
    k128 M5 v0 v1 v2 (v3 + 1)))))
set_option maxRecDepth 100000 in
set_option maxHeartbeats 4000000 in
theorem ob_X9_layAll_L128 {X : Ctx} {l0 : Launch} {E : Env1} (h : Cx X l0 E RX9 cX9_layAll none 4 rm_X9_layAll) (hE : WF E) {M' : Mem} {n1 : Nat} (hR : RetV X E cX9_layAll M') {k128 : Mem → Nat → Nat → Int32 → Int32 → (Option (Mem))} (hk128 : ∀ (M : Mem) (v0 : Nat) (v1 : Nat) (v2 : Int32) (v3 : Int32), isK E v0 8 → isA E v1 9 n1 → k128 M v0 v1 v2 v3 = some (M') → G X E (0, 0) 128 [some (.ref v0), some (.ref v1), some (.int v2), some (.int v3)] [] M) {M : Mem} {v0 : Nat} {v1 : Nat} {v2 : Int32} {v3 : Int32} (h_v0 : isK E v0 8) (h_v1 : isA E v1 9 n1) (hf : b_X9_layAll_L128 E n1 k128 M v0 v1 v2 v3 = some (M')) : G X E (0, 0) 128 [some (.ref v0), some (.ref v1), some (.int v2), some (.int v3)] [] M := by
  unfold b_X9_layAll_L128 at hf
  refine G_iload_n h dX9_layAll_128 (i := 3) rfl rfl rfl ?_
  refine G_bipush h dX9_layAll_129 kb_24 rfl ?_
  refine G_icmp_ge h dX9_layAll_131 (tgt := 168) (by decide) rfl (fun c1 => ?_) (fun c1 => ?_)
  · have hf := it_t c1 hf
    refine G_iconst h dX9_layAll_168 ki_0 rfl ?_
    refine G_istore_n h dX9_layAll_169 (i := 3) rfl (by decide) (L' := [some (.ref v0), some (.ref v1), some (.int v2), some (.int (0 : Int32))]) rfl rfl ?_
    exact o_X9_layAll_L170 h hE hR  FU _ _ _ _ _ h_v0 h_v1 hf
  · have hf := it_f c1 hf
    refine G_aload_n h dX9_layAll_134 (i := 1) rfl rfl rfl ?_
    refine G_iload_n h dX9_layAll_135 (i := 2) rfl rfl rfl ?_
    refine G_bipush h dX9_layAll_136 kb_57 rfl ?_
    refine G_iadd h dX9_layAll_138 rfl ?_
    refine G_iload_n h dX9_layAll_139 (i := 3) rfl rfl rfl ?_
    refine G_iadd h dX9_layAll_140 rfl ?_
    refine G_aload_n h dX9_layAll_141 (i := 0) rfl rfl rfl ?_
    refine gf_X9_31 h hE dX9_layAll_142 h_v0 rfl ?_
    refine G_iload_n h dX9_layAll_145 (i := 3) rfl rfl rfl ?_
    obtain ⟨g2, hf⟩ := gd_some hf
    refine G_iald h dX9_layAll_146 ((w_8_13 hE h_v0).2) g2 (jx := (ix v3)) rfl rfl ?_
    obtain ⟨g3, hf⟩ := gd_some hf
    refine G_iast h dX9_layAll_147 h_v1 g3 (jx := (ix ((v2 + (57 : Int32)) + v3))) rfl rfl ?_
    refine G_aload_n h dX9_layAll_148 (i := 1) rfl rfl rfl ?_
    refine G_iload_n h dX9_layAll_149 (i := 2) rfl rfl rfl ?_
    refine G_bipush h dX9_layAll_150 kb_81 rfl ?_
    refine G_iadd h dX9_layAll_152 rfl ?_
    refine G_iload_n h dX9_layAll_153 (i := 3) rfl rfl rfl ?_
    refine G_iadd h dX9_layAll_154 rfl ?_
    refine G_aload_n h dX9_layAll_155 (i := 0) rfl rfl rfl ?_
    refine gf_X9_34 h hE dX9_layAll_156 h_v0 rfl ?_
    refine G_iload_n h dX9_layAll_159 (i := 3) rfl rfl rfl ?_
    refine G_iald h dX9_layAll_160 ((w_8_14 hE h_v0).2) g2 (jx := (ix v3)) rfl rfl ?_
    obtain ⟨g4, hf⟩ := gd_some hf
    refine G_iast h dX9_layAll_161 h_v1 g4 (jx := (ix ((v2 + (81 : Int32)) + v3))) rfl rfl ?_
    refine G_nmM (fun M5 hM5 => ?_)
    have hf := nm_eq hM5 hf
    refine G_iinc2 h dX9_layAll_162 rfl ki_1 (by decide) (L' := [some (.ref v0), some (.ref v1), some (.int v2), some (.int (v3 + 1))]) rfl rfl ?_
    refine G_goto h dX9_layAll_165 (tgt := 128) (by decide) ?_
    exact hk128 _ _ _ _ _ h_v0 h_v1 hf
def f_X9_layAll_L128 (E : Env1) (n1 : Nat) : Nat → Mem → Nat → Nat → Int32 → Int32 → (Option (Mem))
  | 0 => fun _ _ _ _ _ => none
  | n + 1 => b_X9_layAll_L128 E n1 (f_X9_layAll_L128 E n1 n)
theorem o_X9_layAll_L128 {X : Ctx} {l0 : Launch} {E : Env1} (h : Cx X l0 E RX9 cX9_layAll none 4 rm_X9_layAll) (hE : WF E) {M' : Mem} {n1 : Nat} (hR : RetV X E cX9_layAll M') : ∀ (n : Nat) (M : Mem) (v0 : Nat) (v1 : Nat) (v2 : Int32) (v3 : Int32), isK E v0 8 → isA E v1 9 n1 → f_X9_layAll_L128 E n1 n M v0 v1 v2 v3 = some (M') → G X E (0, 0) 128 [some (.ref v0), some (.ref v1), some (.int v2), some (.int v3)] [] M := by
  intro n
  induction n with
  | zero =>
    intro _ _ _ _ _ a0 a1 hf
    have h0 : (none : Option (Mem)) = some (M') := hf
    cases h0
  | succ n ih =>
    intro _ _ _ _ _ a0 a1 hf
    exact ob_X9_layAll_L128 h hE hR  ih a0 a1 hf
def b_X9_layAll_L100 (E : Env1) (n1 : Nat) (k100 : Mem → Nat → Nat → Int32 → Int32 → (Option (Mem))) (M : Mem) (v0 : Nat) (v1 : Nat) (v2 : Int32) (v3 : Int32) : Option (Mem) :=
  if (18 : Int32) ≤ v3 then (f_X9_layAll_L128 E n1 FU M v0 v1 v2 (0 : Int32))
  else (gd v3 18 (gd ((v2 + (39 : Int32)) + v3) n1 (k100 (wi M v1 (ix ((v2 + (39 : Int32)) + v3)) (mi M (rr E v0 12) (ix v3))) v0 v1 v2 (v3 + 1))))
set_option maxRecDepth 100000 in
set_option maxHeartbeats 4000000 in
theorem ob_X9_layAll_L100 {X : Ctx} {l0 : Launch} {E : Env1} (h : Cx X l0 E RX9 cX9_layAll none 4 rm_X9_layAll) (hE : WF E) {M' : Mem} {n1 : Nat} (hR : RetV X E cX9_layAll M') {k100 : Mem → Nat → Nat → Int32 → Int32 → (Option (Mem))} (hk100 : ∀ (M : Mem) (v0 : Nat) (v1 : Nat) (v2 : Int32) (v3 : Int32), isK E v0 8 → isA E v1 9 n1 → k100 M v0 v1 v2 v3 = some (M') → G X E (0, 0) 100 [some (.ref v0), some (.ref v1), some (.int v2), some (.int v3)] [] M) {M : Mem} {v0 : Nat} {v1 : Nat} {v2 : Int32} {v3 : Int32} (h_v0 : isK E v0 8) (h_v1 : isA E v1 9 n1) (hf : b_X9_layAll_L100 E n1 k100 M v0 v1 v2 v3 = some (M')) : G X E (0, 0) 100 [some (.ref v0), some (.ref v1), some (.int v2), some (.int v3)] [] M := by
  unfold b_X9_layAll_L100 at hf
  refine G_iload_n h dX9_layAll_100 (i := 3) rfl rfl rfl ?_
  refine G_bipush h dX9_layAll_101 kb_18 rfl ?_
  refine G_icmp_ge h dX9_layAll_103 (tgt := 126) (by decide) rfl (fun c1 => ?_) (fun c1 => ?_)
  · have hf := it_t c1 hf
    refine G_iconst h dX9_layAll_126 ki_0 rfl ?_
    refine G_istore_n h dX9_layAll_127 (i := 3) rfl (by decide) (L' := [some (.ref v0), some (.ref v1), some (.int v2), some (.int (0 : Int32))]) rfl rfl ?_
    exact o_X9_layAll_L128 h hE hR  FU _ _ _ _ _ h_v0 h_v1 hf
  · have hf := it_f c1 hf
    refine G_aload_n h dX9_layAll_106 (i := 1) rfl rfl rfl ?_
    refine G_iload_n h dX9_layAll_107 (i := 2) rfl rfl rfl ?_
    refine G_bipush h dX9_layAll_108 kb_39 rfl ?_
    refine G_iadd h dX9_layAll_110 rfl ?_
    refine G_iload_n h dX9_layAll_111 (i := 3) rfl rfl rfl ?_
    refine G_iadd h dX9_layAll_112 rfl ?_
    refine G_aload_n h dX9_layAll_113 (i := 0) rfl rfl rfl ?_
    refine gf_X9_28 h hE dX9_layAll_114 h_v0 rfl ?_
    refine G_iload_n h dX9_layAll_117 (i := 3) rfl rfl rfl ?_
    obtain ⟨g2, hf⟩ := gd_some hf
    refine G_iald h dX9_layAll_118 ((w_8_12 hE h_v0).2) g2 (jx := (ix v3)) rfl rfl ?_
    obtain ⟨g3, hf⟩ := gd_some hf
    refine G_iast h dX9_layAll_119 h_v1 g3 (jx := (ix ((v2 + (39 : Int32)) + v3))) rfl rfl ?_
    refine G_iinc2 h dX9_layAll_120 rfl ki_1 (by decide) (L' := [some (.ref v0), some (.ref v1), some (.int v2), some (.int (v3 + 1))]) rfl rfl ?_
    refine G_goto h dX9_layAll_123 (tgt := 100) (by decide) ?_
    exact hk100 _ _ _ _ _ h_v0 h_v1 hf
def f_X9_layAll_L100 (E : Env1) (n1 : Nat) : Nat → Mem → Nat → Nat → Int32 → Int32 → (Option (Mem))
  | 0 => fun _ _ _ _ _ => none
  | n + 1 => b_X9_layAll_L100 E n1 (f_X9_layAll_L100 E n1 n)
theorem o_X9_layAll_L100 {X : Ctx} {l0 : Launch} {E : Env1} (h : Cx X l0 E RX9 cX9_layAll none 4 rm_X9_layAll) (hE : WF E) {M' : Mem} {n1 : Nat} (hR : RetV X E cX9_layAll M') : ∀ (n : Nat) (M : Mem) (v0 : Nat) (v1 : Nat) (v2 : Int32) (v3 : Int32), isK E v0 8 → isA E v1 9 n1 → f_X9_layAll_L100 E n1 n M v0 v1 v2 v3 = some (M') → G X E (0, 0) 100 [some (.ref v0), some (.ref v1), some (.int v2), some (.int v3)] [] M := by
  intro n
  induction n with
  | zero =>
    intro _ _ _ _ _ a0 a1 hf
    have h0 : (none : Option (Mem)) = some (M') := hf
    cases h0
  | succ n ih =>
    intro _ _ _ _ _ a0 a1 hf
    exact ob_X9_layAll_L100 h hE hR  ih a0 a1 hf
def b_X9_layAll_L58 (E : Env1) (n1 : Nat) (k58 : Mem → Nat → Nat → Int32 → Int32 → (Option (Mem))) (M : Mem) (v0 : Nat) (v1 : Nat) (v2 : Int32) (v3 : Int32) : Option (Mem) :=
  if (6 : Int32) ≤ v3 then (f_X9_layAll_L100 E n1 FU M v0 v1 v2 (0 : Int32))
  else (
    gd v3 6 (gd ((v2 + (27 : Int32)) + v3) n1 (gd ((v2 + (33 : Int32)) + v3) n1 (nm (wi (wi M v1 (ix ((v2 + (27 : Int32)) + v3)) (mi M (rr E v0 7) (ix v3))) v1 (ix ((v2 + (33 : Int32)) + v3)) (mi (wi M v1 (ix ((v2 + (27 : Int32)) + v3)) (mi M (rr E v0 7) (ix v3))) (rr E v0 8) (ix v3))) fun M5 =>
    k58 M5 v0 v1 v2 (v3 + 1)))))
set_option maxRecDepth 100000 in
set_option maxHeartbeats 4000000 in
theorem ob_X9_layAll_L58 {X : Ctx} {l0 : Launch} {E : Env1} (h : Cx X l0 E RX9 cX9_layAll none 4 rm_X9_layAll) (hE : WF E) {M' : Mem} {n1 : Nat} (hR : RetV X E cX9_layAll M') {k58 : Mem → Nat → Nat → Int32 → Int32 → (Option (Mem))} (hk58 : ∀ (M : Mem) (v0 : Nat) (v1 : Nat) (v2 : Int32) (v3 : Int32), isK E v0 8 → isA E v1 9 n1 → k58 M v0 v1 v2 v3 = some (M') → G X E (0, 0) 58 [some (.ref v0), some (.ref v1), some (.int v2), some (.int v3)] [] M) {M : Mem} {v0 : Nat} {v1 : Nat} {v2 : Int32} {v3 : Int32} (h_v0 : isK E v0 8) (h_v1 : isA E v1 9 n1) (hf : b_X9_layAll_L58 E n1 k58 M v0 v1 v2 v3 = some (M')) : G X E (0, 0) 58 [some (.ref v0), some (.ref v1), some (.int v2), some (.int v3)] [] M := by
  unfold b_X9_layAll_L58 at hf
  refine G_iload_n h dX9_layAll_58 (i := 3) rfl rfl rfl ?_
  refine G_bipush h dX9_layAll_59 kb_6 rfl ?_
  refine G_icmp_ge h dX9_layAll_61 (tgt := 98) (by decide) rfl (fun c1 => ?_) (fun c1 => ?_)
  · have hf := it_t c1 hf
    refine G_iconst h dX9_layAll_98 ki_0 rfl ?_
    refine G_istore_n h dX9_layAll_99 (i := 3) rfl (by decide) (L' := [some (.ref v0), some (.ref v1), some (.int v2), some (.int (0 : Int32))]) rfl rfl ?_
    exact o_X9_layAll_L100 h hE hR  FU _ _ _ _ _ h_v0 h_v1 hf
  · have hf := it_f c1 hf
    refine G_aload_n h dX9_layAll_64 (i := 1) rfl rfl rfl ?_
    refine G_iload_n h dX9_layAll_65 (i := 2) rfl rfl rfl ?_
    refine G_bipush h dX9_layAll_66 kb_27 rfl ?_
    refine G_iadd h dX9_layAll_68 rfl ?_
    refine G_iload_n h dX9_layAll_69 (i := 3) rfl rfl rfl ?_
    refine G_iadd h dX9_layAll_70 rfl ?_
    refine G_aload_n h dX9_layAll_71 (i := 0) rfl rfl rfl ?_
    refine gf_X9_13 h hE dX9_layAll_72 h_v0 rfl ?_
    refine G_iload_n h dX9_layAll_75 (i := 3) rfl rfl rfl ?_
    obtain ⟨g2, hf⟩ := gd_some hf
    refine G_iald h dX9_layAll_76 ((w_8_7 hE h_v0).2) g2 (jx := (ix v3)) rfl rfl ?_
    obtain ⟨g3, hf⟩ := gd_some hf
    refine G_iast h dX9_layAll_77 h_v1 g3 (jx := (ix ((v2 + (27 : Int32)) + v3))) rfl rfl ?_
    refine G_aload_n h dX9_layAll_78 (i := 1) rfl rfl rfl ?_
    refine G_iload_n h dX9_layAll_79 (i := 2) rfl rfl rfl ?_
    refine G_bipush h dX9_layAll_80 kb_33 rfl ?_
    refine G_iadd h dX9_layAll_82 rfl ?_
    refine G_iload_n h dX9_layAll_83 (i := 3) rfl rfl rfl ?_
    refine G_iadd h dX9_layAll_84 rfl ?_
    refine G_aload_n h dX9_layAll_85 (i := 0) rfl rfl rfl ?_
    refine gf_X9_16 h hE dX9_layAll_86 h_v0 rfl ?_
    refine G_iload_n h dX9_layAll_89 (i := 3) rfl rfl rfl ?_
    refine G_iald h dX9_layAll_90 ((w_8_8 hE h_v0).2) g2 (jx := (ix v3)) rfl rfl ?_
    obtain ⟨g4, hf⟩ := gd_some hf
    refine G_iast h dX9_layAll_91 h_v1 g4 (jx := (ix ((v2 + (33 : Int32)) + v3))) rfl rfl ?_
    refine G_nmM (fun M5 hM5 => ?_)
    have hf := nm_eq hM5 hf
    refine G_iinc2 h dX9_layAll_92 rfl ki_1 (by decide) (L' := [some (.ref v0), some (.ref v1), some (.int v2), some (.int (v3 + 1))]) rfl rfl ?_
    refine G_goto h dX9_layAll_95 (tgt := 58) (by decide) ?_
    exact hk58 _ _ _ _ _ h_v0 h_v1 hf
def f_X9_layAll_L58 (E : Env1) (n1 : Nat) : Nat → Mem → Nat → Nat → Int32 → Int32 → (Option (Mem))
  | 0 => fun _ _ _ _ _ => none
  | n + 1 => b_X9_layAll_L58 E n1 (f_X9_layAll_L58 E n1 n)
theorem o_X9_layAll_L58 {X : Ctx} {l0 : Launch} {E : Env1} (h : Cx X l0 E RX9 cX9_layAll none 4 rm_X9_layAll) (hE : WF E) {M' : Mem} {n1 : Nat} (hR : RetV X E cX9_layAll M') : ∀ (n : Nat) (M : Mem) (v0 : Nat) (v1 : Nat) (v2 : Int32) (v3 : Int32), isK E v0 8 → isA E v1 9 n1 → f_X9_layAll_L58 E n1 n M v0 v1 v2 v3 = some (M') → G X E (0, 0) 58 [some (.ref v0), some (.ref v1), some (.int v2), some (.int v3)] [] M := by
  intro n
  induction n with
  | zero =>
    intro _ _ _ _ _ a0 a1 hf
    have h0 : (none : Option (Mem)) = some (M') := hf
    cases h0
  | succ n ih =>
    intro _ _ _ _ _ a0 a1 hf
    exact ob_X9_layAll_L58 h hE hR  ih a0 a1 hf
def f_X9_layAll (E : Env1) (n1 : Nat) (M : Mem) (v0 : Nat) (v1 : Nat) (v2 : Int32) : Option (Mem) :=
  (f_X9_lays E n1 M v0 v1 v2).bind fun x1 =>
  gd (v2 + (22 : Int32)) n1 (gd (v2 + (23 : Int32)) n1 (nm (wi (wi x1 v1 (ix (v2 + (22 : Int32))) (mi x1 v0 1)) v1 (ix (v2 + (23 : Int32))) (mi (wi x1 v1 (ix (v2 + (22 : Int32))) (mi x1 v0 1)) v0 4)) fun M4 =>
  gd (v2 + (24 : Int32)) n1 (gd (v2 + (25 : Int32)) n1 (nm (wi (wi M4 v1 (ix (v2 + (24 : Int32))) (mi M4 v0 5)) v1 (ix (v2 + (25 : Int32))) (mi (wi M4 v1 (ix (v2 + (24 : Int32))) (mi M4 v0 5)) v0 6)) fun M7 =>
  gd (v2 + (26 : Int32)) n1 (f_X9_layAll_L58 E n1 FU (wi M7 v1 (ix (v2 + (26 : Int32))) (mi M7 v0 21)) v0 v1 v2 (0 : Int32))))))
set_option maxRecDepth 100000 in
set_option maxHeartbeats 4000000 in
theorem ok_X9_layAll {E : Env1} (hE : WF E) (l0 : Launch) {M : Mem} {M' : Mem} {n1 : Nat} {v0 : Nat} {v1 : Nat} {v2 : Int32} (h0 : isK E v0 8) (h1 : isA E v1 9 n1) (hf : f_X9_layAll E n1 M v0 v1 v2 = some (M')) : Met l0 yX9_layAll (wsA yX9_layAll cX9_layAll 4 none) rm_X9_layAll (CP E M [.ref v0, .ref v1, .int v2]) (CQv E M') 0 0 (eA E) := by
  unfold f_X9_layAll at hf
  refine mtV l0 (by decide +kernel) (Nat.le_of_ble_eq_true rfl) (L0 := [some (.ref v0), some (.ref v1), some (.int v2), none]) rfl (fun X h hR => ?_)
  refine G_aload_n h dX9_layAll_0 (i := 0) rfl rfl rfl ?_
  refine G_aload_n h dX9_layAll_1 (i := 1) rfl rfl rfl ?_
  refine G_iload_n h dX9_layAll_2 (i := 2) rfl rfl rfl ?_
  obtain ⟨x1, hx1, hf⟩ := bd hf
  refine cl_X9_207 h (ok_X9_lays hE _ h0 h1 hx1) dX9_layAll_3 h0 (as := [.ref v1, .int v2]) rfl rfl ⟨rfl, rfl, Nat.le_of_ble_eq_true rfl, Nat.le_of_ble_eq_true rfl⟩ rfl (Nat.le_of_ble_eq_true rfl) ?_
  refine G_aload_n h dX9_layAll_6 (i := 1) rfl rfl rfl ?_
  refine G_iload_n h dX9_layAll_7 (i := 2) rfl rfl rfl ?_
  refine G_bipush h dX9_layAll_8 kb_22 rfl ?_
  refine G_iadd h dX9_layAll_10 rfl ?_
  refine G_aload_n h dX9_layAll_11 (i := 0) rfl rfl rfl ?_
  refine gf_X9_69 h dX9_layAll_12 h0 rfl ?_
  obtain ⟨g2, hf⟩ := gd_some hf
  refine G_iast h dX9_layAll_15 h1 g2 (jx := (ix (v2 + (22 : Int32)))) rfl rfl ?_
  refine G_aload_n h dX9_layAll_16 (i := 1) rfl rfl rfl ?_
  refine G_iload_n h dX9_layAll_17 (i := 2) rfl rfl rfl ?_
  refine G_bipush h dX9_layAll_18 kb_23 rfl ?_
  refine G_iadd h dX9_layAll_20 rfl ?_
  refine G_aload_n h dX9_layAll_21 (i := 0) rfl rfl rfl ?_
  refine gf_X9_79 h dX9_layAll_22 h0 rfl ?_
  obtain ⟨g3, hf⟩ := gd_some hf
  refine G_iast h dX9_layAll_25 h1 g3 (jx := (ix (v2 + (23 : Int32)))) rfl rfl ?_
  refine G_nmM (fun M4 hM4 => ?_)
  have hf := nm_eq hM4 hf
  refine G_aload_n h dX9_layAll_26 (i := 1) rfl rfl rfl ?_
  refine G_iload_n h dX9_layAll_27 (i := 2) rfl rfl rfl ?_
  refine G_bipush h dX9_layAll_28 kb_24 rfl ?_
  refine G_iadd h dX9_layAll_30 rfl ?_
  refine G_aload_n h dX9_layAll_31 (i := 0) rfl rfl rfl ?_
  refine gf_X9_82 h dX9_layAll_32 h0 rfl ?_
  obtain ⟨g5, hf⟩ := gd_some hf
  refine G_iast h dX9_layAll_35 h1 g5 (jx := (ix (v2 + (24 : Int32)))) rfl rfl ?_
  refine G_aload_n h dX9_layAll_36 (i := 1) rfl rfl rfl ?_
  refine G_iload_n h dX9_layAll_37 (i := 2) rfl rfl rfl ?_
  refine G_bipush h dX9_layAll_38 kb_25 rfl ?_
  refine G_iadd h dX9_layAll_40 rfl ?_
  refine G_aload_n h dX9_layAll_41 (i := 0) rfl rfl rfl ?_
  refine gf_X9_85 h dX9_layAll_42 h0 rfl ?_
  obtain ⟨g6, hf⟩ := gd_some hf
  refine G_iast h dX9_layAll_45 h1 g6 (jx := (ix (v2 + (25 : Int32)))) rfl rfl ?_
  refine G_nmM (fun M7 hM7 => ?_)
  have hf := nm_eq hM7 hf
  refine G_aload_n h dX9_layAll_46 (i := 1) rfl rfl rfl ?_
  refine G_iload_n h dX9_layAll_47 (i := 2) rfl rfl rfl ?_
  refine G_bipush h dX9_layAll_48 kb_26 rfl ?_
  refine G_iadd h dX9_layAll_50 rfl ?_
  refine G_aload_n h dX9_layAll_51 (i := 0) rfl rfl rfl ?_
  refine gf_X9_88 h dX9_layAll_52 h0 rfl ?_
  obtain ⟨g8, hf⟩ := gd_some hf
  refine G_iast h dX9_layAll_55 h1 g8 (jx := (ix (v2 + (26 : Int32)))) rfl rfl ?_
  refine G_iconst h dX9_layAll_56 ki_0 rfl ?_
  refine G_istore_n h dX9_layAll_57 (i := 3) rfl (by decide) (L' := [some (.ref v0), some (.ref v1), some (.int v2), some (.int (0 : Int32))]) rfl rfl ?_
  exact o_X9_layAll_L58 h hE hR  FU _ _ _ _ _ h0 h1 hf
def rm_X9_image : Room := { frames := 2, cells := 0, slots := 0, locals := 46 }
def f_X9_image (E : Env1) (M : Mem) (v0 : Nat) (v1 : Int32) : Option (Int32 × Mem) :=
  if (f_X9_in E M v1 (0 : Int32) (1 : Int32)) = 0 then (
    nm (f_X9_bad E M v0) fun x5 =>
    some (x5.1, x5.2))
  else (
    gd v1 2 ((f_X9_layAll E 600 (wi M (rr E v0 28) (ix v1) (1 : Int32)) v0 (rr E v0 27) ((300 : Int32) * v1)).bind fun x4 =>
    some ((1 : Int32), x4)))
set_option maxRecDepth 100000 in
set_option maxHeartbeats 4000000 in
theorem ok_X9_image {E : Env1} (hE : WF E) (l0 : Launch) {M : Mem} {M' : Mem} {v0 : Nat} {v1 : Int32} {r : Int32} (h0 : isK E v0 8) (hf : f_X9_image E M v0 v1 = some (r, M')) : Met l0 yX9_image (wsA yX9_image cX9_image 2 (some .int)) rm_X9_image (CP E M [.ref v0, .int v1]) (CQi E r M') 0 0 (eA E) := by
  unfold f_X9_image at hf
  refine mtI l0 (by decide +kernel) (Nat.le_of_ble_eq_true rfl) (L0 := [some (.ref v0), some (.int v1)]) rfl (fun X h hR => ?_)
  refine G_iload_n h dX9_image_0 (i := 1) rfl rfl rfl ?_
  refine G_iconst h dX9_image_1 ki_0 rfl ?_
  refine G_iconst h dX9_image_2 ki_1 rfl ?_
  refine cl_X9_91 h (ok_X9_in hE _  (r := f_X9_in E M v1 (0 : Int32) (1 : Int32)) rfl) dX9_image_3 (as := [.int v1, .int (0 : Int32), .int (1 : Int32)]) rfl rfl ⟨rfl, rfl, Nat.le_of_ble_eq_true rfl, Nat.le_of_ble_eq_true rfl⟩ rfl (Nat.le_of_ble_eq_true rfl) (fun z1 => ?_)
  refine G_if_ne h dX9_image_6 (tgt := 14) (by decide) rfl (fun c2 => ?_) (fun c2 => ?_)
  · have hf := it_f c2 hf
    refine G_aload_n h dX9_image_14 (i := 0) rfl rfl rfl ?_
    refine gf_X9_63 h hE dX9_image_15 h0 rfl ?_
    refine G_iload_n h dX9_image_18 (i := 1) rfl rfl rfl ?_
    refine G_iconst h dX9_image_19 ki_1 rfl ?_
    obtain ⟨g3, hf⟩ := gd_some hf
    refine G_iast h dX9_image_20 ((w_8_28 hE h0).2) g3 (jx := (ix v1)) rfl rfl ?_
    refine G_aload_n h dX9_image_21 (i := 0) rfl rfl rfl ?_
    refine G_aload_n h dX9_image_22 (i := 0) rfl rfl rfl ?_
    refine gf_X9_60 h hE dX9_image_23 h0 rfl ?_
    refine G_sipush h dX9_image_26 ks_300 rfl ?_
    refine G_iload_n h dX9_image_29 (i := 1) rfl rfl rfl ?_
    refine G_imul h dX9_image_30 rfl ?_
    obtain ⟨x4, hx4, hf⟩ := bd hf
    refine cl_X9_169 h (ok_X9_layAll hE _ h0 ((w_8_27 hE h0).2) hx4) dX9_image_31 h0 (as := [.ref (rr E v0 27), .int ((300 : Int32) * v1)]) rfl rfl ⟨rfl, rfl, Nat.le_of_ble_eq_true rfl, Nat.le_of_ble_eq_true rfl⟩ rfl (Nat.le_of_ble_eq_true rfl) ?_
    refine G_iconst h dX9_image_34 ki_1 rfl ?_
    exact pwI hR dX9_image_35 hf
  · have hf := it_t c2 hf
    refine G_aload_n h dX9_image_9 (i := 0) rfl rfl rfl ?_
    obtain ⟨x5, hx5⟩ : ∃ x, x = f_X9_bad E M v0 := ⟨_, rfl⟩
    have hf := nm_eq hx5 hf
    refine cl_X9_95 h (ok_X9_bad hE _ h0 hx5.symm) dX9_image_10 h0 (as := []) rfl rfl ⟨rfl, rfl, Nat.le_of_ble_eq_true rfl, Nat.le_of_ble_eq_true rfl⟩ rfl (Nat.le_of_ble_eq_true rfl) ?_
    exact pwI hR dX9_image_13 hf
def rm_X9_stepKinds : Room := { frames := 2, cells := 0, slots := 0, locals := 44 }
def b_X9_stepKinds_L15 (E : Env1) (M : Mem) (k4 : Nat → Int32 → Int32 → Int32 → (Option (Int32))) (k15 : Nat → Int32 → Int32 → Int32 → Int32 → Int32 → (Option (Int32))) (v0 : Nat) (v1 : Int32) (v2 : Int32) (v3 : Int32) (v4 : Int32) (v5 : Int32) : Option (Int32) :=
  if ((4 : Int32) * (mi M v0 5)) ≤ v5 then (
    nm (v2 ||| (if v4 = 0 then (0 : Int32) else (1 : Int32) <<< (v3 &&& 31))) fun x3 =>
    k4 v0 v1 x3 (v3 + 1))
  else (
    gd (v5 + (1 : Int32)) 24 (gd (v5 + (2 : Int32)) 24 (gd (v5 + (3 : Int32)) 24 (nm (if (f_X9_wantsBy E M v3 (mi M (rr E v0 13) (ix (v5 + (1 : Int32)))) (mi M (rr E v0 13) (ix (v5 + (2 : Int32))))) = (mi M (rr E v0 13) (ix (v5 + (3 : Int32)))) then (1 : Int32) else (0 : Int32)) fun x8 =>
    if v4 = 0 then (k15 v0 v1 v2 v3 (0 : Int32) (v5 + 4))
    else (
      gd v5 24 (if (mi M (rr E v0 13) (ix v5)) = v1 then (
        if x8 = 0 then (k15 v0 v1 v2 v3 (0 : Int32) (v5 + 4))
        else (k15 v0 v1 v2 v3 (1 : Int32) (v5 + 4)))
      else (k15 v0 v1 v2 v3 (1 : Int32) (v5 + 4))))))))
set_option maxRecDepth 100000 in
set_option maxHeartbeats 4000000 in
theorem ob_X9_stepKinds_L15 {X : Ctx} {l0 : Launch} {E : Env1} (h : Cx X l0 E RX9 cX9_stepKinds (some .int) 7 rm_X9_stepKinds) (hE : WF E) {M : Mem} {r : Int32} (hR : RetI X E cX9_stepKinds r M) {k4 : Nat → Int32 → Int32 → Int32 → (Option (Int32))} (hk4 : ∀ (v0 : Nat) (v1 : Int32) (v2 : Int32) (v3 : Int32), isK E v0 8 → k4 v0 v1 v2 v3 = some r → G X E (0, 0) 4 [some (.ref v0), some (.int v1), some (.int v2), some (.int v3), none, none, none] [] M) {k15 : Nat → Int32 → Int32 → Int32 → Int32 → Int32 → (Option (Int32))} (hk15 : ∀ (v0 : Nat) (v1 : Int32) (v2 : Int32) (v3 : Int32) (v4 : Int32) (v5 : Int32), isK E v0 8 → (v4 = 0 ∨ v4 = 1) → k15 v0 v1 v2 v3 v4 v5 = some r → G X E (0, 0) 15 [some (.ref v0), some (.int v1), some (.int v2), some (.int v3), some (.int v4), some (.int v5), none] [] M) {v0 : Nat} {v1 : Int32} {v2 : Int32} {v3 : Int32} {v4 : Int32} {v5 : Int32} (h_v0 : isK E v0 8) (z_v4 : v4 = 0 ∨ v4 = 1) (hf : b_X9_stepKinds_L15 E M k4 k15 v0 v1 v2 v3 v4 v5 = some r) : G X E (0, 0) 15 [some (.ref v0), some (.int v1), some (.int v2), some (.int v3), some (.int v4), some (.int v5), none] [] M := by
  unfold b_X9_stepKinds_L15 at hf
  refine G_iload h dX9_stepKinds_15 rfl rfl ?_
  refine G_iconst h dX9_stepKinds_17 ki_4 rfl ?_
  refine G_aload_n h dX9_stepKinds_18 (i := 0) rfl rfl rfl ?_
  refine gf_X9_82 h dX9_stepKinds_19 h_v0 rfl ?_
  refine G_imul h dX9_stepKinds_22 rfl ?_
  refine G_icmp_ge h dX9_stepKinds_23 (tgt := 101) (by decide) rfl (fun c1 => ?_) (fun c1 => ?_)
  · have hf := it_t c1 hf
    refine G_iload_n h dX9_stepKinds_101 (i := 2) rfl rfl rfl ?_
    refine G_iload h dX9_stepKinds_102 rfl rfl ?_
    have hJ : G X E (0, 0) 114 [some (.ref v0), some (.int v1), some (.int v2), some (.int v3), some (.int v4), some (.int v5), none] [.int (if v4 = 0 then (0 : Int32) else (1 : Int32) <<< (v3 &&& 31)), .int v2] M := by
      refine G_ior h dX9_stepKinds_114 rfl ?_
      refine G_nmi (fun x3 hx3 => ?_)
      have hf := nm_eq hx3 hf
      refine G_istore_n h dX9_stepKinds_115 (i := 2) rfl (by decide) (L' := [some (.ref v0), some (.int v1), some (.int x3), some (.int v3), some (.int v4), some (.int v5), none]) rfl rfl ?_
      refine G_iinc2 h dX9_stepKinds_116 rfl ki_1 (by decide) (L' := [some (.ref v0), some (.int v1), some (.int x3), some (.int (v3 + 1)), some (.int v4), some (.int v5), none]) rfl rfl ?_
      refine G_goto h dX9_stepKinds_119 (tgt := 4) (by decide) ?_
      refine G_mskL [true, true, true, true, false, false, false] (L' := [some (.ref v0), some (.int v1), some (.int x3), some (.int (v3 + 1)), none, none, none]) rfl ?_
      exact hk4 _ _ _ _ h_v0 hf
    refine G_if_eq h dX9_stepKinds_104 (tgt := 113) (by decide) rfl (fun c2 => ?_) (fun c2 => ?_)
    · refine G_iconst h dX9_stepKinds_113 ki_0 rfl ?_
      exact G_ifp c2 hJ
    · refine G_iconst h dX9_stepKinds_107 ki_1 rfl ?_
      refine G_iload_n h dX9_stepKinds_108 (i := 3) rfl rfl rfl ?_
      refine G_ishl h dX9_stepKinds_109 rfl ?_
      refine G_goto h dX9_stepKinds_110 (tgt := 114) (by decide) ?_
      exact G_ifn c2 hJ
  · have hf := it_f c1 hf
    refine G_iload_n h dX9_stepKinds_26 (i := 3) rfl rfl rfl ?_
    refine G_aload_n h dX9_stepKinds_27 (i := 0) rfl rfl rfl ?_
    refine gf_X9_31 h hE dX9_stepKinds_28 h_v0 rfl ?_
    refine G_iload h dX9_stepKinds_31 rfl rfl ?_
    refine G_iconst h dX9_stepKinds_33 ki_1 rfl ?_
    refine G_iadd h dX9_stepKinds_34 rfl ?_
    obtain ⟨g4, hf⟩ := gd_some hf
    refine G_iald h dX9_stepKinds_35 ((w_8_13 hE h_v0).2) g4 (jx := (ix (v5 + (1 : Int32)))) rfl rfl ?_
    refine G_aload_n h dX9_stepKinds_36 (i := 0) rfl rfl rfl ?_
    refine gf_X9_31 h hE dX9_stepKinds_37 h_v0 rfl ?_
    refine G_iload h dX9_stepKinds_40 rfl rfl ?_
    refine G_iconst h dX9_stepKinds_42 ki_2 rfl ?_
    refine G_iadd h dX9_stepKinds_43 rfl ?_
    obtain ⟨g5, hf⟩ := gd_some hf
    refine G_iald h dX9_stepKinds_44 ((w_8_13 hE h_v0).2) g5 (jx := (ix (v5 + (2 : Int32)))) rfl rfl ?_
    refine cl_X9_182 h (ok_X9_wantsBy hE _  (r := f_X9_wantsBy E M v3 (mi M (rr E v0 13) (ix (v5 + (1 : Int32)))) (mi M (rr E v0 13) (ix (v5 + (2 : Int32))))) rfl) dX9_stepKinds_45 (as := [.int v3, .int (mi M (rr E v0 13) (ix (v5 + (1 : Int32)))), .int (mi M (rr E v0 13) (ix (v5 + (2 : Int32))))]) rfl rfl ⟨rfl, rfl, Nat.le_of_ble_eq_true rfl, Nat.le_of_ble_eq_true rfl⟩ rfl (Nat.le_of_ble_eq_true rfl) ?_
    refine G_aload_n h dX9_stepKinds_48 (i := 0) rfl rfl rfl ?_
    refine gf_X9_31 h hE dX9_stepKinds_49 h_v0 rfl ?_
    refine G_iload h dX9_stepKinds_52 rfl rfl ?_
    refine G_iconst h dX9_stepKinds_54 ki_3 rfl ?_
    refine G_iadd h dX9_stepKinds_55 rfl ?_
    obtain ⟨g6, hf⟩ := gd_some hf
    refine G_iald h dX9_stepKinds_56 ((w_8_13 hE h_v0).2) g6 (jx := (ix (v5 + (3 : Int32)))) rfl rfl ?_
    have hJ : G X E (0, 0) 65 [some (.ref v0), some (.int v1), some (.int v2), some (.int v3), some (.int v4), some (.int v5), none] [.int (if (f_X9_wantsBy E M v3 (mi M (rr E v0 13) (ix (v5 + (1 : Int32)))) (mi M (rr E v0 13) (ix (v5 + (2 : Int32))))) = (mi M (rr E v0 13) (ix (v5 + (3 : Int32)))) then (1 : Int32) else (0 : Int32))] M := by
      refine G_nmi (fun x8 hx8 => ?_)
      have hf := nm_eq hx8 hf
      refine G_istore h dX9_stepKinds_65  (by decide) (L' := [some (.ref v0), some (.int v1), some (.int v2), some (.int v3), some (.int v4), some (.int v5), some (.int x8)]) rfl rfl ?_
      refine G_iload h dX9_stepKinds_67 rfl rfl ?_
      refine G_if_eq h dX9_stepKinds_69 (tgt := 92) (by decide) rfl (fun c9 => ?_) (fun c9 => ?_)
      · have hf := it_t c9 hf
        refine G_iconst h dX9_stepKinds_92 ki_0 rfl ?_
        refine G_istore h dX9_stepKinds_93  (by decide) (L' := [some (.ref v0), some (.int v1), some (.int v2), some (.int v3), some (.int (0 : Int32)), some (.int v5), some (.int x8)]) rfl rfl ?_
        refine G_iinc2 h dX9_stepKinds_95 rfl ki_4 (by decide) (L' := [some (.ref v0), some (.int v1), some (.int v2), some (.int v3), some (.int (0 : Int32)), some (.int (v5 + 4)), some (.int x8)]) rfl rfl ?_
        refine G_goto h dX9_stepKinds_98 (tgt := 15) (by decide) ?_
        refine G_mskL [true, true, true, true, true, true, false] (L' := [some (.ref v0), some (.int v1), some (.int v2), some (.int v3), some (.int (0 : Int32)), some (.int (v5 + 4)), none]) rfl ?_
        exact hk15 _ _ _ _ _ _ h_v0 (Or.inl rfl) hf
      · have hf := it_f c9 hf
        refine G_aload_n h dX9_stepKinds_72 (i := 0) rfl rfl rfl ?_
        refine gf_X9_31 h hE dX9_stepKinds_73 h_v0 rfl ?_
        refine G_iload h dX9_stepKinds_76 rfl rfl ?_
        obtain ⟨g10, hf⟩ := gd_some hf
        refine G_iald h dX9_stepKinds_78 ((w_8_13 hE h_v0).2) g10 (jx := (ix v5)) rfl rfl ?_
        refine G_iload_n h dX9_stepKinds_79 (i := 1) rfl rfl rfl ?_
        refine G_icmp_ne h dX9_stepKinds_80 (tgt := 88) (by decide) rfl (fun c11 => ?_) (fun c11 => ?_)
        · have hf := it_f c11 hf
          refine G_iconst h dX9_stepKinds_88 ki_1 rfl ?_
          refine G_goto h dX9_stepKinds_89 (tgt := 93) (by decide) ?_
          refine G_istore h dX9_stepKinds_93  (by decide) (L' := [some (.ref v0), some (.int v1), some (.int v2), some (.int v3), some (.int (1 : Int32)), some (.int v5), some (.int x8)]) rfl rfl ?_
          refine G_iinc2 h dX9_stepKinds_95 rfl ki_4 (by decide) (L' := [some (.ref v0), some (.int v1), some (.int v2), some (.int v3), some (.int (1 : Int32)), some (.int (v5 + 4)), some (.int x8)]) rfl rfl ?_
          refine G_goto h dX9_stepKinds_98 (tgt := 15) (by decide) ?_
          refine G_mskL [true, true, true, true, true, true, false] (L' := [some (.ref v0), some (.int v1), some (.int v2), some (.int v3), some (.int (1 : Int32)), some (.int (v5 + 4)), none]) rfl ?_
          exact hk15 _ _ _ _ _ _ h_v0 (Or.inr rfl) hf
        · have hf := it_t c11 hf
          refine G_iload h dX9_stepKinds_83 rfl rfl ?_
          refine G_if_eq h dX9_stepKinds_85 (tgt := 92) (by decide) rfl (fun c12 => ?_) (fun c12 => ?_)
          · have hf := it_t c12 hf
            refine G_iconst h dX9_stepKinds_92 ki_0 rfl ?_
            refine G_istore h dX9_stepKinds_93  (by decide) (L' := [some (.ref v0), some (.int v1), some (.int v2), some (.int v3), some (.int (0 : Int32)), some (.int v5), some (.int x8)]) rfl rfl ?_
            refine G_iinc2 h dX9_stepKinds_95 rfl ki_4 (by decide) (L' := [some (.ref v0), some (.int v1), some (.int v2), some (.int v3), some (.int (0 : Int32)), some (.int (v5 + 4)), some (.int x8)]) rfl rfl ?_
            refine G_goto h dX9_stepKinds_98 (tgt := 15) (by decide) ?_
            refine G_mskL [true, true, true, true, true, true, false] (L' := [some (.ref v0), some (.int v1), some (.int v2), some (.int v3), some (.int (0 : Int32)), some (.int (v5 + 4)), none]) rfl ?_
            exact hk15 _ _ _ _ _ _ h_v0 (Or.inl rfl) hf
          · have hf := it_f c12 hf
            refine G_iconst h dX9_stepKinds_88 ki_1 rfl ?_
            refine G_goto h dX9_stepKinds_89 (tgt := 93) (by decide) ?_
            refine G_istore h dX9_stepKinds_93  (by decide) (L' := [some (.ref v0), some (.int v1), some (.int v2), some (.int v3), some (.int (1 : Int32)), some (.int v5), some (.int x8)]) rfl rfl ?_
            refine G_iinc2 h dX9_stepKinds_95 rfl ki_4 (by decide) (L' := [some (.ref v0), some (.int v1), some (.int v2), some (.int v3), some (.int (1 : Int32)), some (.int (v5 + 4)), some (.int x8)]) rfl rfl ?_
            refine G_goto h dX9_stepKinds_98 (tgt := 15) (by decide) ?_
            refine G_mskL [true, true, true, true, true, true, false] (L' := [some (.ref v0), some (.int v1), some (.int v2), some (.int v3), some (.int (1 : Int32)), some (.int (v5 + 4)), none]) rfl ?_
            exact hk15 _ _ _ _ _ _ h_v0 (Or.inr rfl) hf
    refine G_icmp_ne h dX9_stepKinds_57 (tgt := 64) (by decide) rfl (fun c7 => ?_) (fun c7 => ?_)
    · refine G_iconst h dX9_stepKinds_64 ki_0 rfl ?_
      exact G_ifn c7 hJ
    · refine G_iconst h dX9_stepKinds_60 ki_1 rfl ?_
      refine G_goto h dX9_stepKinds_61 (tgt := 65) (by decide) ?_
      exact G_ifp c7 hJ
def f_X9_stepKinds_L15 (E : Env1) (M : Mem) (k4 : Nat → Int32 → Int32 → Int32 → (Option (Int32))) : Nat → Nat → Int32 → Int32 → Int32 → Int32 → Int32 → (Option (Int32))
  | 0 => fun _ _ _ _ _ _ => none
  | n + 1 => b_X9_stepKinds_L15 E M k4 (f_X9_stepKinds_L15 E M k4 n)
theorem o_X9_stepKinds_L15 {X : Ctx} {l0 : Launch} {E : Env1} (h : Cx X l0 E RX9 cX9_stepKinds (some .int) 7 rm_X9_stepKinds) (hE : WF E) {M : Mem} {r : Int32} (hR : RetI X E cX9_stepKinds r M) {k4 : Nat → Int32 → Int32 → Int32 → (Option (Int32))} (hk4 : ∀ (v0 : Nat) (v1 : Int32) (v2 : Int32) (v3 : Int32), isK E v0 8 → k4 v0 v1 v2 v3 = some r → G X E (0, 0) 4 [some (.ref v0), some (.int v1), some (.int v2), some (.int v3), none, none, none] [] M) : ∀ (n : Nat) (v0 : Nat) (v1 : Int32) (v2 : Int32) (v3 : Int32) (v4 : Int32) (v5 : Int32), isK E v0 8 → (v4 = 0 ∨ v4 = 1) → f_X9_stepKinds_L15 E M k4 n v0 v1 v2 v3 v4 v5 = some r → G X E (0, 0) 15 [some (.ref v0), some (.int v1), some (.int v2), some (.int v3), some (.int v4), some (.int v5), none] [] M := by
  intro n
  induction n with
  | zero =>
    intro _ _ _ _ _ _ a0 a1 hf
    have h0 : (none : Option (Int32)) = some r := hf
    cases h0
  | succ n ih =>
    intro _ _ _ _ _ _ a0 a1 hf
    exact ob_X9_stepKinds_L15 h hE hR hk4 ih a0 a1 hf
def b_X9_stepKinds_L4 (E : Env1) (M : Mem) (k4 : Nat → Int32 → Int32 → Int32 → (Option (Int32))) (v0 : Nat) (v1 : Int32) (v2 : Int32) (v3 : Int32) : Option (Int32) :=
  if (5 : Int32) < v3 then (some v2)
  else (f_X9_stepKinds_L15 E M k4 FU v0 v1 v2 v3 (1 : Int32) (0 : Int32))
set_option maxRecDepth 100000 in
set_option maxHeartbeats 4000000 in
theorem ob_X9_stepKinds_L4 {X : Ctx} {l0 : Launch} {E : Env1} (h : Cx X l0 E RX9 cX9_stepKinds (some .int) 7 rm_X9_stepKinds) (hE : WF E) {M : Mem} {r : Int32} (hR : RetI X E cX9_stepKinds r M) {k4 : Nat → Int32 → Int32 → Int32 → (Option (Int32))} (hk4 : ∀ (v0 : Nat) (v1 : Int32) (v2 : Int32) (v3 : Int32), isK E v0 8 → k4 v0 v1 v2 v3 = some r → G X E (0, 0) 4 [some (.ref v0), some (.int v1), some (.int v2), some (.int v3), none, none, none] [] M) {v0 : Nat} {v1 : Int32} {v2 : Int32} {v3 : Int32} (h_v0 : isK E v0 8) (hf : b_X9_stepKinds_L4 E M k4 v0 v1 v2 v3 = some r) : G X E (0, 0) 4 [some (.ref v0), some (.int v1), some (.int v2), some (.int v3), none, none, none] [] M := by
  unfold b_X9_stepKinds_L4 at hf
  refine G_iload_n h dX9_stepKinds_4 (i := 3) rfl rfl rfl ?_
  refine G_iconst h dX9_stepKinds_5 ki_5 rfl ?_
  refine G_icmp_gt h dX9_stepKinds_6 (tgt := 122) (by decide) rfl (fun c1 => ?_) (fun c1 => ?_)
  · have hf := it_t c1 hf
    refine G_iload_n h dX9_stepKinds_122 (i := 2) rfl rfl rfl ?_
    exact roI hR dX9_stepKinds_123 hf
  · have hf := it_f c1 hf
    refine G_iconst h dX9_stepKinds_9 ki_1 rfl ?_
    refine G_istore h dX9_stepKinds_10  (by decide) (L' := [some (.ref v0), some (.int v1), some (.int v2), some (.int v3), some (.int (1 : Int32)), none, none]) rfl rfl ?_
    refine G_iconst h dX9_stepKinds_12 ki_0 rfl ?_
    refine G_istore h dX9_stepKinds_13  (by decide) (L' := [some (.ref v0), some (.int v1), some (.int v2), some (.int v3), some (.int (1 : Int32)), some (.int (0 : Int32)), none]) rfl rfl ?_
    exact o_X9_stepKinds_L15 h hE hR hk4 FU _ _ _ _ _ _ h_v0 (Or.inr rfl) hf
def f_X9_stepKinds_L4 (E : Env1) (M : Mem) : Nat → Nat → Int32 → Int32 → Int32 → (Option (Int32))
  | 0 => fun _ _ _ _ => none
  | n + 1 => b_X9_stepKinds_L4 E M (f_X9_stepKinds_L4 E M n)
theorem o_X9_stepKinds_L4 {X : Ctx} {l0 : Launch} {E : Env1} (h : Cx X l0 E RX9 cX9_stepKinds (some .int) 7 rm_X9_stepKinds) (hE : WF E) {M : Mem} {r : Int32} (hR : RetI X E cX9_stepKinds r M) : ∀ (n : Nat) (v0 : Nat) (v1 : Int32) (v2 : Int32) (v3 : Int32), isK E v0 8 → f_X9_stepKinds_L4 E M n v0 v1 v2 v3 = some r → G X E (0, 0) 4 [some (.ref v0), some (.int v1), some (.int v2), some (.int v3), none, none, none] [] M := by
  intro n
  induction n with
  | zero =>
    intro _ _ _ _ a0 hf
    have h0 : (none : Option (Int32)) = some r := hf
    cases h0
  | succ n ih =>
    intro _ _ _ _ a0 hf
    exact ob_X9_stepKinds_L4 h hE hR  ih a0 hf
def f_X9_stepKinds (E : Env1) (M : Mem) (v0 : Nat) (v1 : Int32) : Option (Int32) :=
  f_X9_stepKinds_L4 E M FU v0 v1 (0 : Int32) (0 : Int32)
set_option maxRecDepth 100000 in
set_option maxHeartbeats 4000000 in
theorem ok_X9_stepKinds {E : Env1} (hE : WF E) (l0 : Launch) {M : Mem} {v0 : Nat} {v1 : Int32} {r : Int32} (h0 : isK E v0 8) (hf : f_X9_stepKinds E M v0 v1 = some r) : Met l0 yX9_stepKinds (wsA yX9_stepKinds cX9_stepKinds 7 (some .int)) rm_X9_stepKinds (CP E M [.ref v0, .int v1]) (CQi E r M) 0 0 (eA E) := by
  unfold f_X9_stepKinds at hf
  refine mtI l0 (by decide +kernel) (Nat.le_of_ble_eq_true rfl) (L0 := [some (.ref v0), some (.int v1), none, none, none, none, none]) rfl (fun X h hR => ?_)
  refine G_iconst h dX9_stepKinds_0 ki_0 rfl ?_
  refine G_istore_n h dX9_stepKinds_1 (i := 2) rfl (by decide) (L' := [some (.ref v0), some (.int v1), some (.int (0 : Int32)), none, none, none, none]) rfl rfl ?_
  refine G_iconst h dX9_stepKinds_2 ki_0 rfl ?_
  refine G_istore_n h dX9_stepKinds_3 (i := 3) rfl (by decide) (L' := [some (.ref v0), some (.int v1), some (.int (0 : Int32)), some (.int (0 : Int32)), none, none, none]) rfl rfl ?_
  exact o_X9_stepKinds_L4 h hE hR  FU _ _ _ _ h0 hf
def rm_X9_is : Room := { frames := 3, cells := 0, slots := 0, locals := 70 }
def f_X9_is (E : Env1) (M : Mem) (v0 : Nat) (v1 : Int32) : Option (Int32 × Mem) :=
  if (f_X9_isStep E M v1) = 0 then (
    nm (f_X9_bad E M v0) fun x3 =>
    some (x3.1, x3.2))
  else (
    (f_X9_stepKinds E M v0 v1).bind fun x4 =>
    some (x4, M))
set_option maxRecDepth 100000 in
set_option maxHeartbeats 4000000 in
theorem ok_X9_is {E : Env1} (hE : WF E) (l0 : Launch) {M : Mem} {M' : Mem} {v0 : Nat} {v1 : Int32} {r : Int32} (h0 : isK E v0 8) (hf : f_X9_is E M v0 v1 = some (r, M')) : Met l0 yX9_is (wsA yX9_is cX9_is 2 (some .int)) rm_X9_is (CP E M [.ref v0, .int v1]) (CQi E r M') 0 0 (eA E) := by
  unfold f_X9_is at hf
  refine mtI l0 (by decide +kernel) (Nat.le_of_ble_eq_true rfl) (L0 := [some (.ref v0), some (.int v1)]) rfl (fun X h hR => ?_)
  refine G_iload_n h dX9_is_0 (i := 1) rfl rfl rfl ?_
  refine cl_X9_219 h (ok_X9_isStep hE _  (r := f_X9_isStep E M v1) rfl) dX9_is_1 (as := [.int v1]) rfl rfl ⟨rfl, rfl, Nat.le_of_ble_eq_true rfl, Nat.le_of_ble_eq_true rfl⟩ rfl (Nat.le_of_ble_eq_true rfl) (fun z1 => ?_)
  refine G_if_eq h dX9_is_4 (tgt := 15) (by decide) rfl (fun c2 => ?_) (fun c2 => ?_)
  · have hf := it_t c2 hf
    refine G_aload_n h dX9_is_15 (i := 0) rfl rfl rfl ?_
    obtain ⟨x3, hx3⟩ : ∃ x, x = f_X9_bad E M v0 := ⟨_, rfl⟩
    have hf := nm_eq hx3 hf
    refine cl_X9_95 h (ok_X9_bad hE _ h0 hx3.symm) dX9_is_16 h0 (as := []) rfl rfl ⟨rfl, rfl, Nat.le_of_ble_eq_true rfl, Nat.le_of_ble_eq_true rfl⟩ rfl (Nat.le_of_ble_eq_true rfl) ?_
    exact pwI hR dX9_is_19 hf
  · have hf := it_f c2 hf
    refine G_aload_n h dX9_is_7 (i := 0) rfl rfl rfl ?_
    refine G_iload_n h dX9_is_8 (i := 1) rfl rfl rfl ?_
    obtain ⟨x4, hx4, hf⟩ := bd hf
    refine cl_X9_256 h (ok_X9_stepKinds hE _ h0 hx4) dX9_is_9 h0 (as := [.int v1]) rfl rfl ⟨rfl, rfl, Nat.le_of_ble_eq_true rfl, Nat.le_of_ble_eq_true rfl⟩ rfl (Nat.le_of_ble_eq_true rfl) ?_
    refine G_goto h dX9_is_12 (tgt := 19) (by decide) ?_
    exact pwI hR dX9_is_19 hf
def rm_X9_isFigure : Room := { frames := 1, cells := 0, slots := 0, locals := 22 }
def f_X9_isFigure (E : Env1) (M : Mem) (v0 : Int32) : Int32 :=
  f_X9_in E M v0 (48 : Int32) (57 : Int32)
set_option maxRecDepth 100000 in
set_option maxHeartbeats 4000000 in
theorem ok_X9_isFigure {E : Env1} (hE : WF E) (l0 : Launch) {M : Mem} {v0 : Int32} {r : Int32}  (hf : f_X9_isFigure E M v0 = r) : Met l0 yX9_isFigure (wsA yX9_isFigure cX9_isFigure 1 (some .boolean)) rm_X9_isFigure (CP E M [.int v0]) (CQz E r M) 0 0 (eA E) := by
  unfold f_X9_isFigure at hf
  refine mtZ l0 (by decide +kernel) (Nat.le_of_ble_eq_true rfl) (L0 := [some (.int v0)]) rfl (fun X h hR => ?_)
  refine G_iload_n h dX9_isFigure_0 (i := 0) rfl rfl rfl ?_
  refine G_bipush h dX9_isFigure_1 kb_48 rfl ?_
  refine G_bipush h dX9_isFigure_3 kb_57 rfl ?_
  refine cl_X9_91 h (ok_X9_in hE _  (r := f_X9_in E M v0 (48 : Int32) (57 : Int32)) rfl) dX9_isFigure_5 (as := [.int v0, .int (48 : Int32), .int (57 : Int32)]) rfl rfl ⟨rfl, rfl, Nat.le_of_ble_eq_true rfl, Nat.le_of_ble_eq_true rfl⟩ rfl (Nat.le_of_ble_eq_true rfl) (fun z1 => ?_)
  exact toZ hR dX9_isFigure_8 z1 hf
def rm_X9_isLetter : Room := { frames := 1, cells := 0, slots := 0, locals := 22 }
def f_X9_isLetter (E : Env1) (M : Mem) (v0 : Int32) : Int32 :=
  f_X9_in E M v0 (97 : Int32) (122 : Int32)
set_option maxRecDepth 100000 in
set_option maxHeartbeats 4000000 in
theorem ok_X9_isLetter {E : Env1} (hE : WF E) (l0 : Launch) {M : Mem} {v0 : Int32} {r : Int32}  (hf : f_X9_isLetter E M v0 = r) : Met l0 yX9_isLetter (wsA yX9_isLetter cX9_isLetter 1 (some .boolean)) rm_X9_isLetter (CP E M [.int v0]) (CQz E r M) 0 0 (eA E) := by
  unfold f_X9_isLetter at hf
  refine mtZ l0 (by decide +kernel) (Nat.le_of_ble_eq_true rfl) (L0 := [some (.int v0)]) rfl (fun X h hR => ?_)
  refine G_iload_n h dX9_isLetter_0 (i := 0) rfl rfl rfl ?_
  refine G_bipush h dX9_isLetter_1 kb_97 rfl ?_
  refine G_bipush h dX9_isLetter_3 kb_122 rfl ?_
  refine cl_X9_91 h (ok_X9_in hE _  (r := f_X9_in E M v0 (97 : Int32) (122 : Int32)) rfl) dX9_isLetter_5 (as := [.int v0, .int (97 : Int32), .int (122 : Int32)]) rfl rfl ⟨rfl, rfl, Nat.le_of_ble_eq_true rfl, Nat.le_of_ble_eq_true rfl⟩ rfl (Nat.le_of_ble_eq_true rfl) (fun z1 => ?_)
  exact toZ hR dX9_isLetter_8 z1 hf
def rm_X9_kinds : Room := { frames := 2, cells := 0, slots := 0, locals := 48 }
def f_X9_kinds (E : Env1) (M : Mem) (v0 : Nat) (v1 : Int32) : Option (Int32 × Mem) :=
  if (f_X9_isOne E M v0 v1) = 0 then (
    nm (f_X9_bad E M v0) fun x3 =>
    some (x3.1, x3.2))
  else (
    (f_X9_peopleKinds E M v0 v1).bind fun x4 =>
    some (x4, M))
set_option maxRecDepth 100000 in
set_option maxHeartbeats 4000000 in
theorem ok_X9_kinds {E : Env1} (hE : WF E) (l0 : Launch) {M : Mem} {M' : Mem} {v0 : Nat} {v1 : Int32} {r : Int32} (h0 : isK E v0 8) (hf : f_X9_kinds E M v0 v1 = some (r, M')) : Met l0 yX9_kinds (wsA yX9_kinds cX9_kinds 2 (some .int)) rm_X9_kinds (CP E M [.ref v0, .int v1]) (CQi E r M') 0 0 (eA E) := by
  unfold f_X9_kinds at hf
  refine mtI l0 (by decide +kernel) (Nat.le_of_ble_eq_true rfl) (L0 := [some (.ref v0), some (.int v1)]) rfl (fun X h hR => ?_)
  refine G_aload_n h dX9_kinds_0 (i := 0) rfl rfl rfl ?_
  refine G_iload_n h dX9_kinds_1 (i := 1) rfl rfl rfl ?_
  refine cl_X9_216 h (ok_X9_isOne hE _ h0 (r := f_X9_isOne E M v0 v1) rfl) dX9_kinds_2 h0 (as := [.int v1]) rfl rfl ⟨rfl, rfl, Nat.le_of_ble_eq_true rfl, Nat.le_of_ble_eq_true rfl⟩ rfl (Nat.le_of_ble_eq_true rfl) (fun z1 => ?_)
  refine G_if_eq h dX9_kinds_5 (tgt := 16) (by decide) rfl (fun c2 => ?_) (fun c2 => ?_)
  · have hf := it_t c2 hf
    refine G_aload_n h dX9_kinds_16 (i := 0) rfl rfl rfl ?_
    obtain ⟨x3, hx3⟩ : ∃ x, x = f_X9_bad E M v0 := ⟨_, rfl⟩
    have hf := nm_eq hx3 hf
    refine cl_X9_95 h (ok_X9_bad hE _ h0 hx3.symm) dX9_kinds_17 h0 (as := []) rfl rfl ⟨rfl, rfl, Nat.le_of_ble_eq_true rfl, Nat.le_of_ble_eq_true rfl⟩ rfl (Nat.le_of_ble_eq_true rfl) ?_
    exact pwI hR dX9_kinds_20 hf
  · have hf := it_f c2 hf
    refine G_aload_n h dX9_kinds_8 (i := 0) rfl rfl rfl ?_
    refine G_iload_n h dX9_kinds_9 (i := 1) rfl rfl rfl ?_
    obtain ⟨x4, hx4, hf⟩ := bd hf
    refine cl_X9_259 h (ok_X9_peopleKinds hE _ h0 hx4) dX9_kinds_10 h0 (as := [.int v1]) rfl rfl ⟨rfl, rfl, Nat.le_of_ble_eq_true rfl, Nat.le_of_ble_eq_true rfl⟩ rfl (Nat.le_of_ble_eq_true rfl) ?_
    refine G_goto h dX9_kinds_13 (tgt := 20) (by decide) ?_
    exact pwI hR dX9_kinds_20 hf
def rm_X9_lay : Room := { frames := 0, cells := 0, slots := 0, locals := 0 }
def b_X9_lay_L6 (E : Env1) (k6 : Mem → Nat → Int64 → Int64 → Int64 → Int64 → (Option (Mem))) (M : Mem) (v0 : Nat) (v1 : Int64) (v3 : Int64) (v5 : Int64) (v7 : Int64) : Option (Mem) :=
  if (lg_cmp v7 (0 : Int64)) = 0 then (gzl v5 (gzl v5 (some (wl (wl M v0 25 (v1 / v5)) v0 26 (v3 / v5)))))
  else (gzl v7 (k6 M v0 v1 v3 v7 (v5 - v5 / v7 * v7)))
set_option maxRecDepth 100000 in
set_option maxHeartbeats 4000000 in
theorem ob_X9_lay_L6 {X : Ctx} {l0 : Launch} {E : Env1} (h : Cx X l0 E RX9 cX9_lay none 11 rm_X9_lay) (hE : WF E) {M' : Mem} (hR : RetV X E cX9_lay M') {k6 : Mem → Nat → Int64 → Int64 → Int64 → Int64 → (Option (Mem))} (hk6 : ∀ (M : Mem) (v0 : Nat) (v1 : Int64) (v3 : Int64) (v5 : Int64) (v7 : Int64), isK E v0 8 → k6 M v0 v1 v3 v5 v7 = some (M') → G X E (0, 0) 6 [some (.ref v0), some (.long v1), none, some (.long v3), none, some (.long v5), none, some (.long v7), none, none, none] [] M) {M : Mem} {v0 : Nat} {v1 : Int64} {v3 : Int64} {v5 : Int64} {v7 : Int64} (h_v0 : isK E v0 8) (hf : b_X9_lay_L6 E k6 M v0 v1 v3 v5 v7 = some (M')) : G X E (0, 0) 6 [some (.ref v0), some (.long v1), none, some (.long v3), none, some (.long v5), none, some (.long v7), none, none, none] [] M := by
  unfold b_X9_lay_L6 at hf
  refine G_lload h dX9_lay_6 rfl rfl ?_
  refine G_lconst h dX9_lay_8 kl_0 rfl ?_
  refine G_lcmp h dX9_lay_9 rfl ?_
  refine G_if_eq h dX9_lay_10 (tgt := 31) (by decide) rfl (fun c1 => ?_) (fun c1 => ?_)
  · have hf := it_t c1 hf
    refine G_aload_n h dX9_lay_31 (i := 0) rfl rfl rfl ?_
    refine G_lload_n h dX9_lay_32 (i := 1) rfl rfl rfl ?_
    refine G_lload h dX9_lay_33 rfl rfl ?_
    obtain ⟨g2, hf⟩ := gzl_some hf
    refine G_ldiv h dX9_lay_35 g2 rfl ?_
    refine pf_X9_274 h dX9_lay_36 h_v0 rfl ?_
    refine G_aload_n h dX9_lay_39 (i := 0) rfl rfl rfl ?_
    refine G_lload_n h dX9_lay_40 (i := 3) rfl rfl rfl ?_
    refine G_lload h dX9_lay_41 rfl rfl ?_
    obtain ⟨g3, hf⟩ := gzl_some hf
    refine G_ldiv h dX9_lay_43 g3 rfl ?_
    refine pf_X9_56 h dX9_lay_44 h_v0 rfl ?_
    exact pwV hR dX9_lay_47 hf
  · have hf := it_f c1 hf
    refine G_lload h dX9_lay_13 rfl rfl ?_
    refine G_lload h dX9_lay_15 rfl rfl ?_
    obtain ⟨g4, hf⟩ := gzl_some hf
    refine G_lrem h dX9_lay_17 g4 rfl ?_
    refine G_lstore h dX9_lay_18  (by decide) (L' := [some (.ref v0), some (.long v1), none, some (.long v3), none, some (.long v5), none, some (.long v7), none, some (.long (v5 - v5 / v7 * v7)), none]) rfl rfl ?_
    refine G_lload h dX9_lay_20 rfl rfl ?_
    refine G_lstore h dX9_lay_22  (by decide) (L' := [some (.ref v0), some (.long v1), none, some (.long v3), none, some (.long v7), none, some (.long v7), none, some (.long (v5 - v5 / v7 * v7)), none]) rfl rfl ?_
    refine G_lload h dX9_lay_24 rfl rfl ?_
    refine G_lstore h dX9_lay_26  (by decide) (L' := [some (.ref v0), some (.long v1), none, some (.long v3), none, some (.long v7), none, some (.long (v5 - v5 / v7 * v7)), none, some (.long (v5 - v5 / v7 * v7)), none]) rfl rfl ?_
    refine G_goto h dX9_lay_28 (tgt := 6) (by decide) ?_
    refine G_mskL [true, true, false, true, false, true, false, true, false, false, false] (L' := [some (.ref v0), some (.long v1), none, some (.long v3), none, some (.long v7), none, some (.long (v5 - v5 / v7 * v7)), none, none, none]) rfl ?_
    exact hk6 _ _ _ _ _ _ h_v0 hf
def f_X9_lay_L6 (E : Env1) : Nat → Mem → Nat → Int64 → Int64 → Int64 → Int64 → (Option (Mem))
  | 0 => fun _ _ _ _ _ _ => none
  | n + 1 => b_X9_lay_L6 E (f_X9_lay_L6 E n)
theorem o_X9_lay_L6 {X : Ctx} {l0 : Launch} {E : Env1} (h : Cx X l0 E RX9 cX9_lay none 11 rm_X9_lay) (hE : WF E) {M' : Mem} (hR : RetV X E cX9_lay M') : ∀ (n : Nat) (M : Mem) (v0 : Nat) (v1 : Int64) (v3 : Int64) (v5 : Int64) (v7 : Int64), isK E v0 8 → f_X9_lay_L6 E n M v0 v1 v3 v5 v7 = some (M') → G X E (0, 0) 6 [some (.ref v0), some (.long v1), none, some (.long v3), none, some (.long v5), none, some (.long v7), none, none, none] [] M := by
  intro n
  induction n with
  | zero =>
    intro _ _ _ _ _ _ a0 hf
    have h0 : (none : Option (Mem)) = some (M') := hf
    cases h0
  | succ n ih =>
    intro _ _ _ _ _ _ a0 hf
    exact ob_X9_lay_L6 h hE hR  ih a0 hf
def f_X9_lay (E : Env1) (M : Mem) (v0 : Nat) (v1 : Int64) (v3 : Int64) : Option (Mem) :=
  f_X9_lay_L6 E FU M v0 v1 v3 v1 v3
set_option maxRecDepth 100000 in
set_option maxHeartbeats 4000000 in
theorem ok_X9_lay {E : Env1} (hE : WF E) (l0 : Launch) {M : Mem} {M' : Mem} {v0 : Nat} {v1 : Int64} {v3 : Int64} (h0 : isK E v0 8) (hf : f_X9_lay E M v0 v1 v3 = some (M')) : Met l0 yX9_lay (wsA yX9_lay cX9_lay 11 none) rm_X9_lay (CP E M [.ref v0, .long v1, .long v3]) (CQv E M') 0 0 (eA E) := by
  unfold f_X9_lay at hf
  refine mtV l0 (by decide +kernel) (Nat.le_of_ble_eq_true rfl) (L0 := [some (.ref v0), some (.long v1), none, some (.long v3), none, none, none, none, none, none, none]) rfl (fun X h hR => ?_)
  refine G_lload_n h dX9_lay_0 (i := 1) rfl rfl rfl ?_
  refine G_lstore h dX9_lay_1  (by decide) (L' := [some (.ref v0), some (.long v1), none, some (.long v3), none, some (.long v1), none, none, none, none, none]) rfl rfl ?_
  refine G_lload_n h dX9_lay_3 (i := 3) rfl rfl rfl ?_
  refine G_lstore h dX9_lay_4  (by decide) (L' := [some (.ref v0), some (.long v1), none, some (.long v3), none, some (.long v1), none, some (.long v3), none, none, none]) rfl rfl ?_
  exact o_X9_lay_L6 h hE hR  FU _ _ _ _ _ _ h0 hf
def rm_X9_letter : Room := { frames := 0, cells := 0, slots := 0, locals := 0 }
def f_X9_letter (E : Env1) (M : Mem) (v0 : Nat) (v1 : Int32) : Option (Int32) :=
  gd ((mi M v0 17) + v1) 150 (some (mi M (rr E v0 15) (ix ((mi M v0 17) + v1))))
set_option maxRecDepth 100000 in
set_option maxHeartbeats 4000000 in
theorem ok_X9_letter {E : Env1} (hE : WF E) (l0 : Launch) {M : Mem} {v0 : Nat} {v1 : Int32} {r : Int32} (h0 : isK E v0 8) (hf : f_X9_letter E M v0 v1 = some r) : Met l0 yX9_letter (wsA yX9_letter cX9_letter 2 (some .int)) rm_X9_letter (CP E M [.ref v0, .int v1]) (CQi E r M) 0 0 (eA E) := by
  unfold f_X9_letter at hf
  refine mtI l0 (by decide +kernel) (Nat.le_of_ble_eq_true rfl) (L0 := [some (.ref v0), some (.int v1)]) rfl (fun X h hR => ?_)
  refine G_aload_n h dX9_letter_0 (i := 0) rfl rfl rfl ?_
  refine gf_X9_37 h hE dX9_letter_1 h0 rfl ?_
  refine G_aload_n h dX9_letter_4 (i := 0) rfl rfl rfl ?_
  refine gf_X9_109 h dX9_letter_5 h0 rfl ?_
  refine G_iload_n h dX9_letter_8 (i := 1) rfl rfl rfl ?_
  refine G_iadd h dX9_letter_9 rfl ?_
  obtain ⟨g1, hf⟩ := gd_some hf
  refine G_iald h dX9_letter_10 ((w_8_15 hE h0).2) g1 (jx := (ix ((mi M v0 17) + v1))) rfl rfl ?_
  exact roI hR dX9_letter_11 hf
def rm_X9_look : Room := { frames := 3, cells := 0, slots := 0, locals := 73 }
def b_X9_look_L41 (E : Env1) (k28 : Mem → Int32 → Int32 → Int32 → Int32 → (Option (Int32 × Mem))) (k41 : Mem → Int32 → Int32 → Int32 → Int32 → Int32 → (Option (Int32 × Mem))) (M : Mem) (v2 : Int32) (v3 : Int32) (v4 : Int32) (v5 : Int32) (v6 : Int32) : Option (Int32 × Mem) :=
  if (12 : Int32) < v6 then (k28 M v2 v3 v4 (v5 + 1))
  else (
    (f_X9_alike E M v2 (1 : Int32) v5 v6).bind fun x2 =>
    nm (if v4 ≤ x2 then v3 else ((100 : Int32) * v5) + v6) fun x4 =>
    k41 M v2 x4 (f_X9_lesser E M v4 x2) v5 (v6 + 1))
set_option maxRecDepth 100000 in
set_option maxHeartbeats 4000000 in
theorem ob_X9_look_L41 {X : Ctx} {l0 : Launch} {E : Env1} (h : Cx X l0 E RX9 cX9_look (some .int) 8 rm_X9_look) (hE : WF E) {M' : Mem} {r : Int32} (hR : RetI X E cX9_look r M') {k28 : Mem → Int32 → Int32 → Int32 → Int32 → (Option (Int32 × Mem))} (hk28 : ∀ (M : Mem) (v2 : Int32) (v3 : Int32) (v4 : Int32) (v5 : Int32), k28 M v2 v3 v4 v5 = some (r, M') → G X E (0, 0) 28 [none, none, some (.int v2), some (.int v3), some (.int v4), some (.int v5), none, none] [] M) {k41 : Mem → Int32 → Int32 → Int32 → Int32 → Int32 → (Option (Int32 × Mem))} (hk41 : ∀ (M : Mem) (v2 : Int32) (v3 : Int32) (v4 : Int32) (v5 : Int32) (v6 : Int32), k41 M v2 v3 v4 v5 v6 = some (r, M') → G X E (0, 0) 41 [none, none, some (.int v2), some (.int v3), some (.int v4), some (.int v5), some (.int v6), none] [] M) {M : Mem} {v2 : Int32} {v3 : Int32} {v4 : Int32} {v5 : Int32} {v6 : Int32}  (hf : b_X9_look_L41 E k28 k41 M v2 v3 v4 v5 v6 = some (r, M')) : G X E (0, 0) 41 [none, none, some (.int v2), some (.int v3), some (.int v4), some (.int v5), some (.int v6), none] [] M := by
  unfold b_X9_look_L41 at hf
  refine G_iload h dX9_look_41 rfl rfl ?_
  refine G_bipush h dX9_look_43 kb_12 rfl ?_
  refine G_icmp_gt h dX9_look_45 (tgt := 94) (by decide) rfl (fun c1 => ?_) (fun c1 => ?_)
  · have hf := it_t c1 hf
    refine G_iinc2 h dX9_look_94 rfl ki_1 (by decide) (L' := [none, none, some (.int v2), some (.int v3), some (.int v4), some (.int (v5 + 1)), some (.int v6), none]) rfl rfl ?_
    refine G_goto h dX9_look_97 (tgt := 28) (by decide) ?_
    refine G_mskL [false, false, true, true, true, true, false, false] (L' := [none, none, some (.int v2), some (.int v3), some (.int v4), some (.int (v5 + 1)), none, none]) rfl ?_
    exact hk28 _ _ _ _ _ hf
  · have hf := it_f c1 hf
    refine G_iload_n h dX9_look_48 (i := 2) rfl rfl rfl ?_
    refine G_iconst h dX9_look_49 ki_1 rfl ?_
    refine G_iload h dX9_look_50 rfl rfl ?_
    refine G_iload h dX9_look_52 rfl rfl ?_
    obtain ⟨x2, hx2, hf⟩ := bd hf
    refine cl_X9_266 h (ok_X9_alike hE _  hx2) dX9_look_54 (as := [.int v2, .int (1 : Int32), .int v5, .int v6]) rfl rfl ⟨rfl, rfl, Nat.le_of_ble_eq_true rfl, Nat.le_of_ble_eq_true rfl⟩ rfl (Nat.le_of_ble_eq_true rfl) ?_
    refine G_istore h dX9_look_57  (by decide) (L' := [none, none, some (.int v2), some (.int v3), some (.int v4), some (.int v5), some (.int v6), some (.int x2)]) rfl rfl ?_
    refine G_iload h dX9_look_59 rfl rfl ?_
    refine G_iload h dX9_look_61 rfl rfl ?_
    have hJ : G X E (0, 0) 78 [none, none, some (.int v2), some (.int v3), some (.int v4), some (.int v5), some (.int v6), some (.int x2)] [.int (if v4 ≤ x2 then v3 else ((100 : Int32) * v5) + v6)] M := by
      refine G_nmi (fun x4 hx4 => ?_)
      have hf := nm_eq hx4 hf
      refine G_istore_n h dX9_look_78 (i := 3) rfl (by decide) (L' := [none, none, some (.int v2), some (.int x4), some (.int v4), some (.int v5), some (.int v6), some (.int x2)]) rfl rfl ?_
      refine G_iload h dX9_look_79 rfl rfl ?_
      refine G_iload h dX9_look_81 rfl rfl ?_
      refine cl_X9_179 h (ok_X9_lesser hE _  (r := f_X9_lesser E M v4 x2) rfl) dX9_look_83 (as := [.int v4, .int x2]) rfl rfl ⟨rfl, rfl, Nat.le_of_ble_eq_true rfl, Nat.le_of_ble_eq_true rfl⟩ rfl (Nat.le_of_ble_eq_true rfl) ?_
      refine G_istore h dX9_look_86  (by decide) (L' := [none, none, some (.int v2), some (.int x4), some (.int (f_X9_lesser E M v4 x2)), some (.int v5), some (.int v6), some (.int x2)]) rfl rfl ?_
      refine G_iinc2 h dX9_look_88 rfl ki_1 (by decide) (L' := [none, none, some (.int v2), some (.int x4), some (.int (f_X9_lesser E M v4 x2)), some (.int v5), some (.int (v6 + 1)), some (.int x2)]) rfl rfl ?_
      refine G_goto h dX9_look_91 (tgt := 41) (by decide) ?_
      refine G_mskL [false, false, true, true, true, true, true, false] (L' := [none, none, some (.int v2), some (.int x4), some (.int (f_X9_lesser E M v4 x2)), some (.int v5), some (.int (v6 + 1)), none]) rfl ?_
      exact hk41 _ _ _ _ _ _ hf
    refine G_icmp_ge h dX9_look_63 (tgt := 77) (by decide) rfl (fun c3 => ?_) (fun c3 => ?_)
    · refine G_iload_n h dX9_look_77 (i := 3) rfl rfl rfl ?_
      exact G_ifp c3 hJ
    · refine G_bipush h dX9_look_66 kb_100 rfl ?_
      refine G_iload h dX9_look_68 rfl rfl ?_
      refine G_imul h dX9_look_70 rfl ?_
      refine G_iload h dX9_look_71 rfl rfl ?_
      refine G_iadd h dX9_look_73 rfl ?_
      refine G_goto h dX9_look_74 (tgt := 78) (by decide) ?_
      exact G_ifn c3 hJ
def f_X9_look_L41 (E : Env1) (k28 : Mem → Int32 → Int32 → Int32 → Int32 → (Option (Int32 × Mem))) : Nat → Mem → Int32 → Int32 → Int32 → Int32 → Int32 → (Option (Int32 × Mem))
  | 0 => fun _ _ _ _ _ _ => none
  | n + 1 => b_X9_look_L41 E k28 (f_X9_look_L41 E k28 n)
theorem o_X9_look_L41 {X : Ctx} {l0 : Launch} {E : Env1} (h : Cx X l0 E RX9 cX9_look (some .int) 8 rm_X9_look) (hE : WF E) {M' : Mem} {r : Int32} (hR : RetI X E cX9_look r M') {k28 : Mem → Int32 → Int32 → Int32 → Int32 → (Option (Int32 × Mem))} (hk28 : ∀ (M : Mem) (v2 : Int32) (v3 : Int32) (v4 : Int32) (v5 : Int32), k28 M v2 v3 v4 v5 = some (r, M') → G X E (0, 0) 28 [none, none, some (.int v2), some (.int v3), some (.int v4), some (.int v5), none, none] [] M) : ∀ (n : Nat) (M : Mem) (v2 : Int32) (v3 : Int32) (v4 : Int32) (v5 : Int32) (v6 : Int32), f_X9_look_L41 E k28 n M v2 v3 v4 v5 v6 = some (r, M') → G X E (0, 0) 41 [none, none, some (.int v2), some (.int v3), some (.int v4), some (.int v5), some (.int v6), none] [] M := by
  intro n
  induction n with
  | zero =>
    intro _ _ _ _ _ _  hf
    have h0 : (none : Option (Int32 × Mem)) = some (r, M') := hf
    cases h0
  | succ n ih =>
    intro _ _ _ _ _ _  hf
    exact ob_X9_look_L41 h hE hR hk28 ih  hf
def b_X9_look_L28 (E : Env1) (k28 : Mem → Int32 → Int32 → Int32 → Int32 → (Option (Int32 × Mem))) (M : Mem) (v2 : Int32) (v3 : Int32) (v4 : Int32) (v5 : Int32) : Option (Int32 × Mem) :=
  if (2 : Int32) ≤ v5 then (some (v3, M))
  else (
    if v2 = 0 then (some (v3, M))
    else (f_X9_look_L41 E k28 FU M v2 v3 v4 v5 (1 : Int32)))
set_option maxRecDepth 100000 in
set_option maxHeartbeats 4000000 in
theorem ob_X9_look_L28 {X : Ctx} {l0 : Launch} {E : Env1} (h : Cx X l0 E RX9 cX9_look (some .int) 8 rm_X9_look) (hE : WF E) {M' : Mem} {r : Int32} (hR : RetI X E cX9_look r M') {k28 : Mem → Int32 → Int32 → Int32 → Int32 → (Option (Int32 × Mem))} (hk28 : ∀ (M : Mem) (v2 : Int32) (v3 : Int32) (v4 : Int32) (v5 : Int32), k28 M v2 v3 v4 v5 = some (r, M') → G X E (0, 0) 28 [none, none, some (.int v2), some (.int v3), some (.int v4), some (.int v5), none, none] [] M) {M : Mem} {v2 : Int32} {v3 : Int32} {v4 : Int32} {v5 : Int32}  (hf : b_X9_look_L28 E k28 M v2 v3 v4 v5 = some (r, M')) : G X E (0, 0) 28 [none, none, some (.int v2), some (.int v3), some (.int v4), some (.int v5), none, none] [] M := by
  unfold b_X9_look_L28 at hf
  refine G_iload h dX9_look_28 rfl rfl ?_
  refine G_iconst h dX9_look_30 ki_2 rfl ?_
  refine G_icmp_ge h dX9_look_31 (tgt := 100) (by decide) rfl (fun c1 => ?_) (fun c1 => ?_)
  · have hf := it_t c1 hf
    refine G_iload_n h dX9_look_100 (i := 3) rfl rfl rfl ?_
    exact pwI hR dX9_look_101 hf
  · have hf := it_f c1 hf
    refine G_iload_n h dX9_look_34 (i := 2) rfl rfl rfl ?_
    refine G_if_eq h dX9_look_35 (tgt := 100) (by decide) rfl (fun c2 => ?_) (fun c2 => ?_)
    · have hf := it_t c2 hf
      refine G_iload_n h dX9_look_100 (i := 3) rfl rfl rfl ?_
      exact pwI hR dX9_look_101 hf
    · have hf := it_f c2 hf
      refine G_iconst h dX9_look_38 ki_1 rfl ?_
      refine G_istore h dX9_look_39  (by decide) (L' := [none, none, some (.int v2), some (.int v3), some (.int v4), some (.int v5), some (.int (1 : Int32)), none]) rfl rfl ?_
      exact o_X9_look_L41 h hE hR hk28 FU _ _ _ _ _ _ hf
def f_X9_look_L28 (E : Env1) : Nat → Mem → Int32 → Int32 → Int32 → Int32 → (Option (Int32 × Mem))
  | 0 => fun _ _ _ _ _ => none
  | n + 1 => b_X9_look_L28 E (f_X9_look_L28 E n)
theorem o_X9_look_L28 {X : Ctx} {l0 : Launch} {E : Env1} (h : Cx X l0 E RX9 cX9_look (some .int) 8 rm_X9_look) (hE : WF E) {M' : Mem} {r : Int32} (hR : RetI X E cX9_look r M') : ∀ (n : Nat) (M : Mem) (v2 : Int32) (v3 : Int32) (v4 : Int32) (v5 : Int32), f_X9_look_L28 E n M v2 v3 v4 v5 = some (r, M') → G X E (0, 0) 28 [none, none, some (.int v2), some (.int v3), some (.int v4), some (.int v5), none, none] [] M := by
  intro n
  induction n with
  | zero =>
    intro _ _ _ _ _  hf
    have h0 : (none : Option (Int32 × Mem)) = some (r, M') := hf
    cases h0
  | succ n ih =>
    intro _ _ _ _ _  hf
    exact ob_X9_look_L28 h hE hR  ih  hf
def f_X9_look (E : Env1) (M : Mem) (v0 : Nat) (v1 : Int32) : Option (Int32 × Mem) :=
  if (f_X9_isStep E M v1) = 0 then (
    nm (f_X9_bad E M v0) fun x4 =>
    some (x4.1, x4.2))
  else (
    (f_X9_stepKinds E M v0 v1).bind fun x3 =>
    f_X9_look_L28 E FU M x3 (-1 : Int32) (1048576 : Int32) (0 : Int32))
set_option maxRecDepth 100000 in
set_option maxHeartbeats 4000000 in
theorem ok_X9_look {E : Env1} (hE : WF E) (l0 : Launch) {M : Mem} {M' : Mem} {v0 : Nat} {v1 : Int32} {r : Int32} (h0 : isK E v0 8) (hf : f_X9_look E M v0 v1 = some (r, M')) : Met l0 yX9_look (wsA yX9_look cX9_look 8 (some .int)) rm_X9_look (CP E M [.ref v0, .int v1]) (CQi E r M') 0 0 (eA E) := by
  unfold f_X9_look at hf
  refine mtI l0 (by decide +kernel) (Nat.le_of_ble_eq_true rfl) (L0 := [some (.ref v0), some (.int v1), none, none, none, none, none, none]) rfl (fun X h hR => ?_)
  refine G_iload_n h dX9_look_0 (i := 1) rfl rfl rfl ?_
  refine cl_X9_219 h (ok_X9_isStep hE _  (r := f_X9_isStep E M v1) rfl) dX9_look_1 (as := [.int v1]) rfl rfl ⟨rfl, rfl, Nat.le_of_ble_eq_true rfl, Nat.le_of_ble_eq_true rfl⟩ rfl (Nat.le_of_ble_eq_true rfl) (fun z1 => ?_)
  refine G_if_ne h dX9_look_4 (tgt := 12) (by decide) rfl (fun c2 => ?_) (fun c2 => ?_)
  · have hf := it_f c2 hf
    refine G_aload_n h dX9_look_12 (i := 0) rfl rfl rfl ?_
    refine G_iload_n h dX9_look_13 (i := 1) rfl rfl rfl ?_
    obtain ⟨x3, hx3, hf⟩ := bd hf
    refine cl_X9_256 h (ok_X9_stepKinds hE _ h0 hx3) dX9_look_14 h0 (as := [.int v1]) rfl rfl ⟨rfl, rfl, Nat.le_of_ble_eq_true rfl, Nat.le_of_ble_eq_true rfl⟩ rfl (Nat.le_of_ble_eq_true rfl) ?_
    refine G_istore_n h dX9_look_17 (i := 2) rfl (by decide) (L' := [some (.ref v0), some (.int v1), some (.int x3), none, none, none, none, none]) rfl rfl ?_
    refine G_iconst h dX9_look_18 ki_m1 rfl ?_
    refine G_istore_n h dX9_look_19 (i := 3) rfl (by decide) (L' := [some (.ref v0), some (.int v1), some (.int x3), some (.int (-1 : Int32)), none, none, none, none]) rfl rfl ?_
    refine G_ldcw h q1322 dX9_look_20 rfl ?_
    refine G_istore h dX9_look_23  (by decide) (L' := [some (.ref v0), some (.int v1), some (.int x3), some (.int (-1 : Int32)), some (.int (1048576 : Int32)), none, none, none]) rfl rfl ?_
    refine G_iconst h dX9_look_25 ki_0 rfl ?_
    refine G_istore h dX9_look_26  (by decide) (L' := [some (.ref v0), some (.int v1), some (.int x3), some (.int (-1 : Int32)), some (.int (1048576 : Int32)), some (.int (0 : Int32)), none, none]) rfl rfl ?_
    refine G_mskL [false, false, true, true, true, true, false, false] (L' := [none, none, some (.int x3), some (.int (-1 : Int32)), some (.int (1048576 : Int32)), some (.int (0 : Int32)), none, none]) rfl ?_
    exact o_X9_look_L28 h hE hR  FU _ _ _ _ _ hf
  · have hf := it_t c2 hf
    refine G_aload_n h dX9_look_7 (i := 0) rfl rfl rfl ?_
    obtain ⟨x4, hx4⟩ : ∃ x, x = f_X9_bad E M v0 := ⟨_, rfl⟩
    have hf := nm_eq hx4 hf
    refine cl_X9_95 h (ok_X9_bad hE _ h0 hx4.symm) dX9_look_8 h0 (as := []) rfl rfl ⟨rfl, rfl, Nat.le_of_ble_eq_true rfl, Nat.le_of_ble_eq_true rfl⟩ rfl (Nat.le_of_ble_eq_true rfl) ?_
    exact pwI hR dX9_look_11 hf
def rm_X9_mark : Room := { frames := 2, cells := 0, slots := 0, locals := 43 }
def f_X9_mark (E : Env1) (M : Mem) (v0 : Nat) (v1 : Int32) (v2 : Int32) (v3 : Int32) (v4 : Int32) : Option (Int32 × Mem) :=
  if (f_X9_isOne E M v0 v1) = 0 then (
    nm (f_X9_bad E M v0) fun x3 =>
    some (x3.1, x3.2))
  else (
    if (f_X9_in E M v2 (-1 : Int32) (8 : Int32)) = 0 then (
      nm (f_X9_bad E M v0) fun x6 =>
      some (x6.1, x6.2))
    else (
      if (f_X9_in E M v3 (0 : Int32) (23 : Int32)) = 0 then (
        nm (f_X9_bad E M v0) fun x9 =>
        some (x9.1, x9.2))
      else (
        if (f_X9_in E M v4 (0 : Int32) (9 : Int32)) = 0 then (
          nm (f_X9_bad E M v0) fun x20 =>
          some (x20.1, x20.2))
        else (
          if (mi M v0 6) = (6 : Int32) then (
            nm (f_X9_full E M v0) fun x19 =>
            some (x19.1, x19.2))
          else (
            gd ((4 : Int32) * (mi M v0 6)) 24 (gd (((4 : Int32) * (mi (wi M (rr E v0 14) (ix ((4 : Int32) * (mi M v0 6))) v1) v0 6)) + (1 : Int32)) 24 (nm (wi (wi M (rr E v0 14) (ix ((4 : Int32) * (mi M v0 6))) v1) (rr E v0 14) (ix (((4 : Int32) * (mi (wi M (rr E v0 14) (ix ((4 : Int32) * (mi M v0 6))) v1) v0 6)) + (1 : Int32))) v2) fun M15 =>
            gd (((4 : Int32) * (mi M15 v0 6)) + (2 : Int32)) 24 (gd (((4 : Int32) * (mi (wi M15 (rr E v0 14) (ix (((4 : Int32) * (mi M15 v0 6)) + (2 : Int32))) v3) v0 6)) + (3 : Int32)) 24 (nm (wi (wi M15 (rr E v0 14) (ix (((4 : Int32) * (mi M15 v0 6)) + (2 : Int32))) v3) (rr E v0 14) (ix (((4 : Int32) * (mi (wi M15 (rr E v0 14) (ix (((4 : Int32) * (mi M15 v0 6)) + (2 : Int32))) v3) v0 6)) + (3 : Int32))) v4) fun M18 =>
            some (mi (wi M18 v0 6 ((mi M18 v0 6) + (1 : Int32))) v0 6, wi M18 v0 6 ((mi M18 v0 6) + (1 : Int32))))))))))))
set_option maxRecDepth 100000 in
set_option maxHeartbeats 4000000 in
theorem ok_X9_mark {E : Env1} (hE : WF E) (l0 : Launch) {M : Mem} {M' : Mem} {v0 : Nat} {v1 : Int32} {v2 : Int32} {v3 : Int32} {v4 : Int32} {r : Int32} (h0 : isK E v0 8) (hf : f_X9_mark E M v0 v1 v2 v3 v4 = some (r, M')) : Met l0 yX9_mark (wsA yX9_mark cX9_mark 5 (some .int)) rm_X9_mark (CP E M [.ref v0, .int v1, .int v2, .int v3, .int v4]) (CQi E r M') 0 0 (eA E) := by
  unfold f_X9_mark at hf
  refine mtI l0 (by decide +kernel) (Nat.le_of_ble_eq_true rfl) (L0 := [some (.ref v0), some (.int v1), some (.int v2), some (.int v3), some (.int v4)]) rfl (fun X h hR => ?_)
  refine G_aload_n h dX9_mark_0 (i := 0) rfl rfl rfl ?_
  refine G_iload_n h dX9_mark_1 (i := 1) rfl rfl rfl ?_
  refine cl_X9_216 h (ok_X9_isOne hE _ h0 (r := f_X9_isOne E M v0 v1) rfl) dX9_mark_2 h0 (as := [.int v1]) rfl rfl ⟨rfl, rfl, Nat.le_of_ble_eq_true rfl, Nat.le_of_ble_eq_true rfl⟩ rfl (Nat.le_of_ble_eq_true rfl) (fun z1 => ?_)
  refine G_if_eq h dX9_mark_5 (tgt := 39) (by decide) rfl (fun c2 => ?_) (fun c2 => ?_)
  · have hf := it_t c2 hf
    refine G_aload_n h dX9_mark_39 (i := 0) rfl rfl rfl ?_
    obtain ⟨x3, hx3⟩ : ∃ x, x = f_X9_bad E M v0 := ⟨_, rfl⟩
    have hf := nm_eq hx3 hf
    refine cl_X9_95 h (ok_X9_bad hE _ h0 hx3.symm) dX9_mark_40 h0 (as := []) rfl rfl ⟨rfl, rfl, Nat.le_of_ble_eq_true rfl, Nat.le_of_ble_eq_true rfl⟩ rfl (Nat.le_of_ble_eq_true rfl) ?_
    exact pwI hR dX9_mark_43 hf
  · have hf := it_f c2 hf
    refine G_iload_n h dX9_mark_8 (i := 2) rfl rfl rfl ?_
    refine G_iconst h dX9_mark_9 ki_m1 rfl ?_
    refine G_bipush h dX9_mark_10 kb_8 rfl ?_
    refine cl_X9_91 h (ok_X9_in hE _  (r := f_X9_in E M v2 (-1 : Int32) (8 : Int32)) rfl) dX9_mark_12 (as := [.int v2, .int (-1 : Int32), .int (8 : Int32)]) rfl rfl ⟨rfl, rfl, Nat.le_of_ble_eq_true rfl, Nat.le_of_ble_eq_true rfl⟩ rfl (Nat.le_of_ble_eq_true rfl) (fun z4 => ?_)
    refine G_if_eq h dX9_mark_15 (tgt := 39) (by decide) rfl (fun c5 => ?_) (fun c5 => ?_)
    · have hf := it_t c5 hf
      refine G_aload_n h dX9_mark_39 (i := 0) rfl rfl rfl ?_
      obtain ⟨x6, hx6⟩ : ∃ x, x = f_X9_bad E M v0 := ⟨_, rfl⟩
      have hf := nm_eq hx6 hf
      refine cl_X9_95 h (ok_X9_bad hE _ h0 hx6.symm) dX9_mark_40 h0 (as := []) rfl rfl ⟨rfl, rfl, Nat.le_of_ble_eq_true rfl, Nat.le_of_ble_eq_true rfl⟩ rfl (Nat.le_of_ble_eq_true rfl) ?_
      exact pwI hR dX9_mark_43 hf
    · have hf := it_f c5 hf
      refine G_iload_n h dX9_mark_18 (i := 3) rfl rfl rfl ?_
      refine G_iconst h dX9_mark_19 ki_0 rfl ?_
      refine G_bipush h dX9_mark_20 kb_23 rfl ?_
      refine cl_X9_91 h (ok_X9_in hE _  (r := f_X9_in E M v3 (0 : Int32) (23 : Int32)) rfl) dX9_mark_22 (as := [.int v3, .int (0 : Int32), .int (23 : Int32)]) rfl rfl ⟨rfl, rfl, Nat.le_of_ble_eq_true rfl, Nat.le_of_ble_eq_true rfl⟩ rfl (Nat.le_of_ble_eq_true rfl) (fun z7 => ?_)
      refine G_if_eq h dX9_mark_25 (tgt := 39) (by decide) rfl (fun c8 => ?_) (fun c8 => ?_)
      · have hf := it_t c8 hf
        refine G_aload_n h dX9_mark_39 (i := 0) rfl rfl rfl ?_
        obtain ⟨x9, hx9⟩ : ∃ x, x = f_X9_bad E M v0 := ⟨_, rfl⟩
        have hf := nm_eq hx9 hf
        refine cl_X9_95 h (ok_X9_bad hE _ h0 hx9.symm) dX9_mark_40 h0 (as := []) rfl rfl ⟨rfl, rfl, Nat.le_of_ble_eq_true rfl, Nat.le_of_ble_eq_true rfl⟩ rfl (Nat.le_of_ble_eq_true rfl) ?_
        exact pwI hR dX9_mark_43 hf
      · have hf := it_f c8 hf
        refine G_iload h dX9_mark_28 rfl rfl ?_
        refine G_iconst h dX9_mark_30 ki_0 rfl ?_
        refine G_bipush h dX9_mark_31 kb_9 rfl ?_
        refine cl_X9_91 h (ok_X9_in hE _  (r := f_X9_in E M v4 (0 : Int32) (9 : Int32)) rfl) dX9_mark_33 (as := [.int v4, .int (0 : Int32), .int (9 : Int32)]) rfl rfl ⟨rfl, rfl, Nat.le_of_ble_eq_true rfl, Nat.le_of_ble_eq_true rfl⟩ rfl (Nat.le_of_ble_eq_true rfl) (fun z10 => ?_)
        refine G_if_ne h dX9_mark_36 (tgt := 44) (by decide) rfl (fun c11 => ?_) (fun c11 => ?_)
        · have hf := it_f c11 hf
          refine G_aload_n h dX9_mark_44 (i := 0) rfl rfl rfl ?_
          refine gf_X9_85 h dX9_mark_45 h0 rfl ?_
          refine G_bipush h dX9_mark_48 kb_6 rfl ?_
          refine G_icmp_ne h dX9_mark_50 (tgt := 58) (by decide) rfl (fun c12 => ?_) (fun c12 => ?_)
          · have hf := it_f c12 hf
            refine G_aload_n h dX9_mark_58 (i := 0) rfl rfl rfl ?_
            refine gf_X9_34 h hE dX9_mark_59 h0 rfl ?_
            refine G_iconst h dX9_mark_62 ki_4 rfl ?_
            refine G_aload_n h dX9_mark_63 (i := 0) rfl rfl rfl ?_
            refine gf_X9_85 h dX9_mark_64 h0 rfl ?_
            refine G_imul h dX9_mark_67 rfl ?_
            refine G_iload_n h dX9_mark_68 (i := 1) rfl rfl rfl ?_
            obtain ⟨g13, hf⟩ := gd_some hf
            refine G_iast h dX9_mark_69 ((w_8_14 hE h0).2) g13 (jx := (ix ((4 : Int32) * (mi M v0 6)))) rfl rfl ?_
            refine G_aload_n h dX9_mark_70 (i := 0) rfl rfl rfl ?_
            refine gf_X9_34 h hE dX9_mark_71 h0 rfl ?_
            refine G_iconst h dX9_mark_74 ki_4 rfl ?_
            refine G_aload_n h dX9_mark_75 (i := 0) rfl rfl rfl ?_
            refine gf_X9_85 h dX9_mark_76 h0 rfl ?_
            refine G_imul h dX9_mark_79 rfl ?_
            refine G_iconst h dX9_mark_80 ki_1 rfl ?_
            refine G_iadd h dX9_mark_81 rfl ?_
            refine G_iload_n h dX9_mark_82 (i := 2) rfl rfl rfl ?_
            obtain ⟨g14, hf⟩ := gd_some hf
            refine G_iast h dX9_mark_83 ((w_8_14 hE h0).2) g14 (jx := (ix (((4 : Int32) * (mi (wi M (rr E v0 14) (ix ((4 : Int32) * (mi M v0 6))) v1) v0 6)) + (1 : Int32)))) rfl rfl ?_
            refine G_nmM (fun M15 hM15 => ?_)
            have hf := nm_eq hM15 hf
            refine G_aload_n h dX9_mark_84 (i := 0) rfl rfl rfl ?_
            refine gf_X9_34 h hE dX9_mark_85 h0 rfl ?_
            refine G_iconst h dX9_mark_88 ki_4 rfl ?_
            refine G_aload_n h dX9_mark_89 (i := 0) rfl rfl rfl ?_
            refine gf_X9_85 h dX9_mark_90 h0 rfl ?_
            refine G_imul h dX9_mark_93 rfl ?_
            refine G_iconst h dX9_mark_94 ki_2 rfl ?_
            refine G_iadd h dX9_mark_95 rfl ?_
            refine G_iload_n h dX9_mark_96 (i := 3) rfl rfl rfl ?_
            obtain ⟨g16, hf⟩ := gd_some hf
            refine G_iast h dX9_mark_97 ((w_8_14 hE h0).2) g16 (jx := (ix (((4 : Int32) * (mi M15 v0 6)) + (2 : Int32)))) rfl rfl ?_
            refine G_aload_n h dX9_mark_98 (i := 0) rfl rfl rfl ?_
            refine gf_X9_34 h hE dX9_mark_99 h0 rfl ?_
            refine G_iconst h dX9_mark_102 ki_4 rfl ?_
            refine G_aload_n h dX9_mark_103 (i := 0) rfl rfl rfl ?_
            refine gf_X9_85 h dX9_mark_104 h0 rfl ?_
            refine G_imul h dX9_mark_107 rfl ?_
            refine G_iconst h dX9_mark_108 ki_3 rfl ?_
            refine G_iadd h dX9_mark_109 rfl ?_
            refine G_iload h dX9_mark_110 rfl rfl ?_
            obtain ⟨g17, hf⟩ := gd_some hf
            refine G_iast h dX9_mark_112 ((w_8_14 hE h0).2) g17 (jx := (ix (((4 : Int32) * (mi (wi M15 (rr E v0 14) (ix (((4 : Int32) * (mi M15 v0 6)) + (2 : Int32))) v3) v0 6)) + (3 : Int32)))) rfl rfl ?_
            refine G_nmM (fun M18 hM18 => ?_)
            have hf := nm_eq hM18 hf
            refine G_aload_n h dX9_mark_113 (i := 0) rfl rfl rfl ?_
            refine G_dup h dX9_mark_114 rfl rfl ?_
            refine gf_X9_85 h dX9_mark_115 h0 rfl ?_
            refine G_iconst h dX9_mark_118 ki_1 rfl ?_
            refine G_iadd h dX9_mark_119 rfl ?_
            refine pf_X9_85 h dX9_mark_120 h0 rfl ?_
            refine G_aload_n h dX9_mark_123 (i := 0) rfl rfl rfl ?_
            refine gf_X9_85 h dX9_mark_124 h0 rfl ?_
            exact pwI hR dX9_mark_127 hf
          · have hf := it_t c12 hf
            refine G_aload_n h dX9_mark_53 (i := 0) rfl rfl rfl ?_
            obtain ⟨x19, hx19⟩ : ∃ x, x = f_X9_full E M v0 := ⟨_, rfl⟩
            have hf := nm_eq hx19 hf
            refine cl_X9_99 h (ok_X9_full hE _ h0 hx19.symm) dX9_mark_54 h0 (as := []) rfl rfl ⟨rfl, rfl, Nat.le_of_ble_eq_true rfl, Nat.le_of_ble_eq_true rfl⟩ rfl (Nat.le_of_ble_eq_true rfl) ?_
            exact pwI hR dX9_mark_57 hf
        · have hf := it_t c11 hf
          refine G_aload_n h dX9_mark_39 (i := 0) rfl rfl rfl ?_
          obtain ⟨x20, hx20⟩ : ∃ x, x = f_X9_bad E M v0 := ⟨_, rfl⟩
          have hf := nm_eq hx20 hf
          refine cl_X9_95 h (ok_X9_bad hE _ h0 hx20.symm) dX9_mark_40 h0 (as := []) rfl rfl ⟨rfl, rfl, Nat.le_of_ble_eq_true rfl, Nat.le_of_ble_eq_true rfl⟩ rfl (Nat.le_of_ble_eq_true rfl) ?_
          exact pwI hR dX9_mark_43 hf
def rm_X9_mayKnow : Room := { frames := 1, cells := 0, slots := 0, locals := 21 }
def f_X9_mayKnow_L75 (E : Env1) (M : Mem) (k5 : Nat → Int32 → Int32 → Int32 → Int32 → (Option (Int32))) (v0 : Nat) (v1 : Int32) (v2 : Int32) (v3 : Int32) (v4 : Int32) (s0 : Int32) : Option (Int32) :=
  if v3 = 0 then (k5 v0 v1 v2 (0 : Int32) (v4 + 3))
  else (
    gd v4 18 (if (mi M (rr E v0 12) (ix v4)) = v1 then (
      if s0 = 0 then (k5 v0 v1 v2 (0 : Int32) (v4 + 3))
      else (k5 v0 v1 v2 (1 : Int32) (v4 + 3)))
    else (k5 v0 v1 v2 (1 : Int32) (v4 + 3))))
set_option maxRecDepth 100000 in
set_option maxHeartbeats 4000000 in
theorem o_X9_mayKnow_L75 {X : Ctx} {l0 : Launch} {E : Env1} (h : Cx X l0 E RX9 cX9_mayKnow (some .boolean) 8 rm_X9_mayKnow) (hE : WF E) {M : Mem} {r : Int32} (hR : RetZ X E cX9_mayKnow r M) {k5 : Nat → Int32 → Int32 → Int32 → Int32 → (Option (Int32))} (hk5 : ∀ (v0 : Nat) (v1 : Int32) (v2 : Int32) (v3 : Int32) (v4 : Int32), isK E v0 8 → (v3 = 0 ∨ v3 = 1) → k5 v0 v1 v2 v3 v4 = some r → G X E (0, 0) 5 [some (.ref v0), some (.int v1), some (.int v2), some (.int v3), some (.int v4), none, none, none] [] M) {v0 : Nat} {v1 : Int32} {v2 : Int32} {v3 : Int32} {v4 : Int32} {s0 : Int32} (h_v0 : isK E v0 8) (z_v3 : v3 = 0 ∨ v3 = 1) (z_s0 : s0 = 0 ∨ s0 = 1) (hf : f_X9_mayKnow_L75 E M k5 v0 v1 v2 v3 v4 s0 = some r) : G X E (0, 0) 75 [some (.ref v0), some (.int v1), some (.int v2), some (.int v3), some (.int v4), none, none, none] [.int s0] M := by
  unfold f_X9_mayKnow_L75 at hf
  refine G_istore h dX9_mayKnow_75  (by decide) (L' := [some (.ref v0), some (.int v1), some (.int v2), some (.int v3), some (.int v4), none, none, some (.int s0)]) rfl rfl ?_
  refine G_iload_n h dX9_mayKnow_77 (i := 3) rfl rfl rfl ?_
  refine G_if_eq h dX9_mayKnow_78 (tgt := 101) (by decide) rfl (fun c1 => ?_) (fun c1 => ?_)
  · have hf := it_t c1 hf
    refine G_iconst h dX9_mayKnow_101 ki_0 rfl ?_
    refine G_istore_n h dX9_mayKnow_102 (i := 3) rfl (by decide) (L' := [some (.ref v0), some (.int v1), some (.int v2), some (.int (0 : Int32)), some (.int v4), none, none, some (.int s0)]) rfl rfl ?_
    refine G_iinc2 h dX9_mayKnow_103 rfl ki_3 (by decide) (L' := [some (.ref v0), some (.int v1), some (.int v2), some (.int (0 : Int32)), some (.int (v4 + 3)), none, none, some (.int s0)]) rfl rfl ?_
    refine G_goto h dX9_mayKnow_106 (tgt := 5) (by decide) ?_
    refine G_mskL [true, true, true, true, true, false, false, false] (L' := [some (.ref v0), some (.int v1), some (.int v2), some (.int (0 : Int32)), some (.int (v4 + 3)), none, none, none]) rfl ?_
    exact hk5 _ _ _ _ _ h_v0 (Or.inl rfl) hf
  · have hf := it_f c1 hf
    refine G_aload_n h dX9_mayKnow_81 (i := 0) rfl rfl rfl ?_
    refine gf_X9_28 h hE dX9_mayKnow_82 h_v0 rfl ?_
    refine G_iload h dX9_mayKnow_85 rfl rfl ?_
    obtain ⟨g2, hf⟩ := gd_some hf
    refine G_iald h dX9_mayKnow_87 ((w_8_12 hE h_v0).2) g2 (jx := (ix v4)) rfl rfl ?_
    refine G_iload_n h dX9_mayKnow_88 (i := 1) rfl rfl rfl ?_
    refine G_icmp_ne h dX9_mayKnow_89 (tgt := 97) (by decide) rfl (fun c3 => ?_) (fun c3 => ?_)
    · have hf := it_f c3 hf
      refine G_iconst h dX9_mayKnow_97 ki_1 rfl ?_
      refine G_goto h dX9_mayKnow_98 (tgt := 102) (by decide) ?_
      refine G_istore_n h dX9_mayKnow_102 (i := 3) rfl (by decide) (L' := [some (.ref v0), some (.int v1), some (.int v2), some (.int (1 : Int32)), some (.int v4), none, none, some (.int s0)]) rfl rfl ?_
      refine G_iinc2 h dX9_mayKnow_103 rfl ki_3 (by decide) (L' := [some (.ref v0), some (.int v1), some (.int v2), some (.int (1 : Int32)), some (.int (v4 + 3)), none, none, some (.int s0)]) rfl rfl ?_
      refine G_goto h dX9_mayKnow_106 (tgt := 5) (by decide) ?_
      refine G_mskL [true, true, true, true, true, false, false, false] (L' := [some (.ref v0), some (.int v1), some (.int v2), some (.int (1 : Int32)), some (.int (v4 + 3)), none, none, none]) rfl ?_
      exact hk5 _ _ _ _ _ h_v0 (Or.inr rfl) hf
    · have hf := it_t c3 hf
      refine G_iload h dX9_mayKnow_92 rfl rfl ?_
      refine G_if_eq h dX9_mayKnow_94 (tgt := 101) (by decide) rfl (fun c4 => ?_) (fun c4 => ?_)
      · have hf := it_t c4 hf
        refine G_iconst h dX9_mayKnow_101 ki_0 rfl ?_
        refine G_istore_n h dX9_mayKnow_102 (i := 3) rfl (by decide) (L' := [some (.ref v0), some (.int v1), some (.int v2), some (.int (0 : Int32)), some (.int v4), none, none, some (.int s0)]) rfl rfl ?_
        refine G_iinc2 h dX9_mayKnow_103 rfl ki_3 (by decide) (L' := [some (.ref v0), some (.int v1), some (.int v2), some (.int (0 : Int32)), some (.int (v4 + 3)), none, none, some (.int s0)]) rfl rfl ?_
        refine G_goto h dX9_mayKnow_106 (tgt := 5) (by decide) ?_
        refine G_mskL [true, true, true, true, true, false, false, false] (L' := [some (.ref v0), some (.int v1), some (.int v2), some (.int (0 : Int32)), some (.int (v4 + 3)), none, none, none]) rfl ?_
        exact hk5 _ _ _ _ _ h_v0 (Or.inl rfl) hf
      · have hf := it_f c4 hf
        refine G_iconst h dX9_mayKnow_97 ki_1 rfl ?_
        refine G_goto h dX9_mayKnow_98 (tgt := 102) (by decide) ?_
        refine G_istore_n h dX9_mayKnow_102 (i := 3) rfl (by decide) (L' := [some (.ref v0), some (.int v1), some (.int v2), some (.int (1 : Int32)), some (.int v4), none, none, some (.int s0)]) rfl rfl ?_
        refine G_iinc2 h dX9_mayKnow_103 rfl ki_3 (by decide) (L' := [some (.ref v0), some (.int v1), some (.int v2), some (.int (1 : Int32)), some (.int (v4 + 3)), none, none, some (.int s0)]) rfl rfl ?_
        refine G_goto h dX9_mayKnow_106 (tgt := 5) (by decide) ?_
        refine G_mskL [true, true, true, true, true, false, false, false] (L' := [some (.ref v0), some (.int v1), some (.int v2), some (.int (1 : Int32)), some (.int (v4 + 3)), none, none, none]) rfl ?_
        exact hk5 _ _ _ _ _ h_v0 (Or.inr rfl) hf
def b_X9_mayKnow_L5 (E : Env1) (M : Mem) (k5 : Nat → Int32 → Int32 → Int32 → Int32 → (Option (Int32))) (v0 : Nat) (v1 : Int32) (v2 : Int32) (v3 : Int32) (v4 : Int32) : Option (Int32) :=
  if ((3 : Int32) * (mi M v0 4)) ≤ v4 then (some v3)
  else (
    gd (v4 + (1 : Int32)) 18 (nm (mi M (rr E v0 12) (ix (v4 + (1 : Int32)))) fun x3 =>
    nm (((1 : Int32) <<< (x3 &&& 31)) - (1 : Int32)) fun x4 =>
    if (x4 &&& (v2 ^^^ (-1 : Int32))) = 0 then (
      gd (v4 + (2 : Int32)) 18 (if (f_X9_has E M v2 x3) = (if (mi M (rr E v0 12) (ix (v4 + (2 : Int32)))) = 0 then (1 : Int32) else (0 : Int32)) then (f_X9_mayKnow_L75 E M k5 v0 v1 v2 v3 v4 (1 : Int32))
      else (f_X9_mayKnow_L75 E M k5 v0 v1 v2 v3 v4 (0 : Int32))))
    else (f_X9_mayKnow_L75 E M k5 v0 v1 v2 v3 v4 (0 : Int32))))
set_option maxRecDepth 100000 in
set_option maxHeartbeats 4000000 in
theorem ob_X9_mayKnow_L5 {X : Ctx} {l0 : Launch} {E : Env1} (h : Cx X l0 E RX9 cX9_mayKnow (some .boolean) 8 rm_X9_mayKnow) (hE : WF E) {M : Mem} {r : Int32} (hR : RetZ X E cX9_mayKnow r M) {k5 : Nat → Int32 → Int32 → Int32 → Int32 → (Option (Int32))} (hk5 : ∀ (v0 : Nat) (v1 : Int32) (v2 : Int32) (v3 : Int32) (v4 : Int32), isK E v0 8 → (v3 = 0 ∨ v3 = 1) → k5 v0 v1 v2 v3 v4 = some r → G X E (0, 0) 5 [some (.ref v0), some (.int v1), some (.int v2), some (.int v3), some (.int v4), none, none, none] [] M) {v0 : Nat} {v1 : Int32} {v2 : Int32} {v3 : Int32} {v4 : Int32} (h_v0 : isK E v0 8) (z_v3 : v3 = 0 ∨ v3 = 1) (hf : b_X9_mayKnow_L5 E M k5 v0 v1 v2 v3 v4 = some r) : G X E (0, 0) 5 [some (.ref v0), some (.int v1), some (.int v2), some (.int v3), some (.int v4), none, none, none] [] M := by
  unfold b_X9_mayKnow_L5 at hf
  refine G_iload h dX9_mayKnow_5 rfl rfl ?_
  refine G_iconst h dX9_mayKnow_7 ki_3 rfl ?_
  refine G_aload_n h dX9_mayKnow_8 (i := 0) rfl rfl rfl ?_
  refine gf_X9_79 h dX9_mayKnow_9 h_v0 rfl ?_
  refine G_imul h dX9_mayKnow_12 rfl ?_
  refine G_icmp_ge h dX9_mayKnow_13 (tgt := 109) (by decide) rfl (fun c1 => ?_) (fun c1 => ?_)
  · have hf := it_t c1 hf
    refine G_iload_n h dX9_mayKnow_109 (i := 3) rfl rfl rfl ?_
    exact roZ hR dX9_mayKnow_110 z_v3 hf
  · have hf := it_f c1 hf
    refine G_aload_n h dX9_mayKnow_16 (i := 0) rfl rfl rfl ?_
    refine gf_X9_28 h hE dX9_mayKnow_17 h_v0 rfl ?_
    refine G_iload h dX9_mayKnow_20 rfl rfl ?_
    refine G_iconst h dX9_mayKnow_22 ki_1 rfl ?_
    refine G_iadd h dX9_mayKnow_23 rfl ?_
    obtain ⟨g2, hf⟩ := gd_some hf
    refine G_iald h dX9_mayKnow_24 ((w_8_12 hE h_v0).2) g2 (jx := (ix (v4 + (1 : Int32)))) rfl rfl ?_
    refine G_nmi (fun x3 hx3 => ?_)
    have hf := nm_eq hx3 hf
    refine G_istore h dX9_mayKnow_25  (by decide) (L' := [some (.ref v0), some (.int v1), some (.int v2), some (.int v3), some (.int v4), some (.int x3), none, none]) rfl rfl ?_
    refine G_iconst h dX9_mayKnow_27 ki_1 rfl ?_
    refine G_iload h dX9_mayKnow_28 rfl rfl ?_
    refine G_ishl h dX9_mayKnow_30 rfl ?_
    refine G_iconst h dX9_mayKnow_31 ki_1 rfl ?_
    refine G_isub h dX9_mayKnow_32 rfl ?_
    refine G_nmi (fun x4 hx4 => ?_)
    have hf := nm_eq hx4 hf
    refine G_istore h dX9_mayKnow_33  (by decide) (L' := [some (.ref v0), some (.int v1), some (.int v2), some (.int v3), some (.int v4), some (.int x3), some (.int x4), none]) rfl rfl ?_
    refine G_iload h dX9_mayKnow_35 rfl rfl ?_
    refine G_iload_n h dX9_mayKnow_37 (i := 2) rfl rfl rfl ?_
    refine G_iconst h dX9_mayKnow_38 ki_m1 rfl ?_
    refine G_ixor h dX9_mayKnow_39 rfl ?_
    refine G_iand h dX9_mayKnow_40 rfl ?_
    refine G_if_ne h dX9_mayKnow_41 (tgt := 74) (by decide) rfl (fun c5 => ?_) (fun c5 => ?_)
    · have hf := it_f c5 hf
      refine G_iconst h dX9_mayKnow_74 ki_0 rfl ?_
      refine G_mskL [true, true, true, true, true, false, false, false] (L' := [some (.ref v0), some (.int v1), some (.int v2), some (.int v3), some (.int v4), none, none, none]) rfl ?_
      exact o_X9_mayKnow_L75 h hE hR hk5 h_v0 z_v3 (Or.inl rfl) hf
    · have hf := it_t c5 hf
      refine G_iload_n h dX9_mayKnow_44 (i := 2) rfl rfl rfl ?_
      refine G_iload h dX9_mayKnow_45 rfl rfl ?_
      refine cl_X9_189 h (ok_X9_has hE _  (r := f_X9_has E M v2 x3) rfl) dX9_mayKnow_47 (as := [.int v2, .int x3]) rfl rfl ⟨rfl, rfl, Nat.le_of_ble_eq_true rfl, Nat.le_of_ble_eq_true rfl⟩ rfl (Nat.le_of_ble_eq_true rfl) (fun z6 => ?_)
      refine G_aload_n h dX9_mayKnow_50 (i := 0) rfl rfl rfl ?_
      refine gf_X9_28 h hE dX9_mayKnow_51 h_v0 rfl ?_
      refine G_iload h dX9_mayKnow_54 rfl rfl ?_
      refine G_iconst h dX9_mayKnow_56 ki_2 rfl ?_
      refine G_iadd h dX9_mayKnow_57 rfl ?_
      obtain ⟨g7, hf⟩ := gd_some hf
      refine G_iald h dX9_mayKnow_58 ((w_8_12 hE h_v0).2) g7 (jx := (ix (v4 + (2 : Int32)))) rfl rfl ?_
      have hJ : G X E (0, 0) 67 [some (.ref v0), some (.int v1), some (.int v2), some (.int v3), some (.int v4), some (.int x3), some (.int x4), none] [.int (if (mi M (rr E v0 12) (ix (v4 + (2 : Int32)))) = 0 then (1 : Int32) else (0 : Int32)), .int (f_X9_has E M v2 x3)] M := by
        refine G_icmp_ne h dX9_mayKnow_67 (tgt := 74) (by decide) rfl (fun c9 => ?_) (fun c9 => ?_)
        · have hf := it_f c9 hf
          refine G_iconst h dX9_mayKnow_74 ki_0 rfl ?_
          refine G_mskL [true, true, true, true, true, false, false, false] (L' := [some (.ref v0), some (.int v1), some (.int v2), some (.int v3), some (.int v4), none, none, none]) rfl ?_
          exact o_X9_mayKnow_L75 h hE hR hk5 h_v0 z_v3 (Or.inl rfl) hf
        · have hf := it_t c9 hf
          refine G_iconst h dX9_mayKnow_70 ki_1 rfl ?_
          refine G_goto h dX9_mayKnow_71 (tgt := 75) (by decide) ?_
          refine G_mskL [true, true, true, true, true, false, false, false] (L' := [some (.ref v0), some (.int v1), some (.int v2), some (.int v3), some (.int v4), none, none, none]) rfl ?_
          exact o_X9_mayKnow_L75 h hE hR hk5 h_v0 z_v3 (Or.inr rfl) hf
      refine G_if_ne h dX9_mayKnow_59 (tgt := 66) (by decide) rfl (fun c8 => ?_) (fun c8 => ?_)
      · refine G_iconst h dX9_mayKnow_66 ki_0 rfl ?_
        exact G_ifn c8 hJ
      · refine G_iconst h dX9_mayKnow_62 ki_1 rfl ?_
        refine G_goto h dX9_mayKnow_63 (tgt := 67) (by decide) ?_
        exact G_ifp c8 hJ
def f_X9_mayKnow_L5 (E : Env1) (M : Mem) : Nat → Nat → Int32 → Int32 → Int32 → Int32 → (Option (Int32))
  | 0 => fun _ _ _ _ _ => none
  | n + 1 => b_X9_mayKnow_L5 E M (f_X9_mayKnow_L5 E M n)
theorem o_X9_mayKnow_L5 {X : Ctx} {l0 : Launch} {E : Env1} (h : Cx X l0 E RX9 cX9_mayKnow (some .boolean) 8 rm_X9_mayKnow) (hE : WF E) {M : Mem} {r : Int32} (hR : RetZ X E cX9_mayKnow r M) : ∀ (n : Nat) (v0 : Nat) (v1 : Int32) (v2 : Int32) (v3 : Int32) (v4 : Int32), isK E v0 8 → (v3 = 0 ∨ v3 = 1) → f_X9_mayKnow_L5 E M n v0 v1 v2 v3 v4 = some r → G X E (0, 0) 5 [some (.ref v0), some (.int v1), some (.int v2), some (.int v3), some (.int v4), none, none, none] [] M := by
  intro n
  induction n with
  | zero =>
    intro _ _ _ _ _ a0 a1 hf
    have h0 : (none : Option (Int32)) = some r := hf
    cases h0
  | succ n ih =>
    intro _ _ _ _ _ a0 a1 hf
    exact ob_X9_mayKnow_L5 h hE hR  ih a0 a1 hf
def f_X9_mayKnow (E : Env1) (M : Mem) (v0 : Nat) (v1 : Int32) (v2 : Int32) : Option (Int32) :=
  f_X9_mayKnow_L5 E M FU v0 v1 v2 (1 : Int32) (0 : Int32)
set_option maxRecDepth 100000 in
set_option maxHeartbeats 4000000 in
theorem ok_X9_mayKnow {E : Env1} (hE : WF E) (l0 : Launch) {M : Mem} {v0 : Nat} {v1 : Int32} {v2 : Int32} {r : Int32} (h0 : isK E v0 8) (hf : f_X9_mayKnow E M v0 v1 v2 = some r) : Met l0 yX9_mayKnow (wsA yX9_mayKnow cX9_mayKnow 8 (some .boolean)) rm_X9_mayKnow (CP E M [.ref v0, .int v1, .int v2]) (CQz E r M) 0 0 (eA E) := by
  unfold f_X9_mayKnow at hf
  refine mtZ l0 (by decide +kernel) (Nat.le_of_ble_eq_true rfl) (L0 := [some (.ref v0), some (.int v1), some (.int v2), none, none, none, none, none]) rfl (fun X h hR => ?_)
  refine G_iconst h dX9_mayKnow_0 ki_1 rfl ?_
  refine G_istore_n h dX9_mayKnow_1 (i := 3) rfl (by decide) (L' := [some (.ref v0), some (.int v1), some (.int v2), some (.int (1 : Int32)), none, none, none, none]) rfl rfl ?_
  refine G_iconst h dX9_mayKnow_2 ki_0 rfl ?_
  refine G_istore h dX9_mayKnow_3  (by decide) (L' := [some (.ref v0), some (.int v1), some (.int v2), some (.int (1 : Int32)), some (.int (0 : Int32)), none, none, none]) rfl rfl ?_
  exact o_X9_mayKnow_L5 h hE hR  FU _ _ _ _ _ h0 (Or.inr rfl) hf
def rm_X9_may : Room := { frames := 2, cells := 0, slots := 0, locals := 48 }
def b_X9_may_L35 (E : Env1) (k35 : Mem → Nat → Int32 → Int32 → Int32 → Int32 → Int32 → Int32 → (Option (Int32 × Mem))) (M : Mem) (v0 : Nat) (v1 : Int32) (v2 : Int32) (v3 : Int32) (v4 : Int32) (v5 : Int32) (v6 : Int32) : Option (Int32 × Mem) :=
  if (256 : Int32) ≤ v6 then (some (if v2 = 0 then v3 else if v2 = (2 : Int32) then v5 else if v3 = 0 then (-1 : Int32) else v4, M))
  else (
    (f_X9_mayKnow E M v0 v1 v6).bind fun x6 =>
    if x6 = 0 then (k35 M v0 v1 v2 v3 v4 v5 (v6 + 1))
    else (k35 M v0 v1 v2 (v3 + 1) (v4 &&& v6) (v5 ||| v6) (v6 + 1)))
set_option maxRecDepth 100000 in
set_option maxHeartbeats 4000000 in
theorem ob_X9_may_L35 {X : Ctx} {l0 : Launch} {E : Env1} (h : Cx X l0 E RX9 cX9_may (some .int) 7 rm_X9_may) (hE : WF E) {M' : Mem} {r : Int32} (hR : RetI X E cX9_may r M') {k35 : Mem → Nat → Int32 → Int32 → Int32 → Int32 → Int32 → Int32 → (Option (Int32 × Mem))} (hk35 : ∀ (M : Mem) (v0 : Nat) (v1 : Int32) (v2 : Int32) (v3 : Int32) (v4 : Int32) (v5 : Int32) (v6 : Int32), isK E v0 8 → k35 M v0 v1 v2 v3 v4 v5 v6 = some (r, M') → G X E (0, 0) 35 [some (.ref v0), some (.int v1), some (.int v2), some (.int v3), some (.int v4), some (.int v5), some (.int v6)] [] M) {M : Mem} {v0 : Nat} {v1 : Int32} {v2 : Int32} {v3 : Int32} {v4 : Int32} {v5 : Int32} {v6 : Int32} (h_v0 : isK E v0 8) (hf : b_X9_may_L35 E k35 M v0 v1 v2 v3 v4 v5 v6 = some (r, M')) : G X E (0, 0) 35 [some (.ref v0), some (.int v1), some (.int v2), some (.int v3), some (.int v4), some (.int v5), some (.int v6)] [] M := by
  unfold b_X9_may_L35 at hf
  refine G_iload h dX9_may_35 rfl rfl ?_
  refine G_sipush h dX9_may_37 ks_256 rfl ?_
  refine G_icmp_ge h dX9_may_40 (tgt := 76) (by decide) rfl (fun c1 => ?_) (fun c1 => ?_)
  · have hf := it_t c1 hf
    refine G_iload_n h dX9_may_76 (i := 2) rfl rfl rfl ?_
    have hJ : G X E (0, 0) 104 [some (.ref v0), some (.int v1), some (.int v2), some (.int v3), some (.int v4), some (.int v5), some (.int v6)] [.int (if v2 = 0 then v3 else if v2 = (2 : Int32) then v5 else if v3 = 0 then (-1 : Int32) else v4)] M := by
      exact pwI hR dX9_may_104 hf
    refine G_if_ne h dX9_may_77 (tgt := 84) (by decide) rfl (fun c2 => ?_) (fun c2 => ?_)
    · refine G_iload_n h dX9_may_84 (i := 2) rfl rfl rfl ?_
      refine G_iconst h dX9_may_85 ki_2 rfl ?_
      refine G_icmp_ne h dX9_may_86 (tgt := 94) (by decide) rfl (fun c3 => ?_) (fun c3 => ?_)
      · refine G_iload_n h dX9_may_94 (i := 3) rfl rfl rfl ?_
        refine G_if_ne h dX9_may_95 (tgt := 102) (by decide) rfl (fun c4 => ?_) (fun c4 => ?_)
        · refine G_iload h dX9_may_102 rfl rfl ?_
          exact G_ifn c4 (G_ifn c3 (G_ifn c2 hJ))
        · refine G_iconst h dX9_may_98 ki_m1 rfl ?_
          refine G_goto h dX9_may_99 (tgt := 104) (by decide) ?_
          exact G_ifp c4 (G_ifn c3 (G_ifn c2 hJ))
      · refine G_iload h dX9_may_89 rfl rfl ?_
        refine G_goto h dX9_may_91 (tgt := 104) (by decide) ?_
        exact G_ifp c3 (G_ifn c2 hJ)
    · refine G_iload_n h dX9_may_80 (i := 3) rfl rfl rfl ?_
      refine G_goto h dX9_may_81 (tgt := 104) (by decide) ?_
      exact G_ifp c2 hJ
  · have hf := it_f c1 hf
    refine G_aload_n h dX9_may_43 (i := 0) rfl rfl rfl ?_
    refine G_iload_n h dX9_may_44 (i := 1) rfl rfl rfl ?_
    refine G_iload h dX9_may_45 rfl rfl ?_
    obtain ⟨x6, hx6, hf⟩ := bd hf
    refine cl_X9_253 h (ok_X9_mayKnow hE _ h_v0 hx6) dX9_may_47 h_v0 (as := [.int v1, .int v6]) rfl rfl ⟨rfl, rfl, Nat.le_of_ble_eq_true rfl, Nat.le_of_ble_eq_true rfl⟩ rfl (Nat.le_of_ble_eq_true rfl) (fun z5 => ?_)
    refine G_if_eq h dX9_may_50 (tgt := 70) (by decide) rfl (fun c7 => ?_) (fun c7 => ?_)
    · have hf := it_t c7 hf
      refine G_iinc2 h dX9_may_70 rfl ki_1 (by decide) (L' := [some (.ref v0), some (.int v1), some (.int v2), some (.int v3), some (.int v4), some (.int v5), some (.int (v6 + 1))]) rfl rfl ?_
      refine G_goto h dX9_may_73 (tgt := 35) (by decide) ?_
      exact hk35 _ _ _ _ _ _ _ _ h_v0 hf
    · have hf := it_f c7 hf
      refine G_iinc2 h dX9_may_53 rfl ki_1 (by decide) (L' := [some (.ref v0), some (.int v1), some (.int v2), some (.int (v3 + 1)), some (.int v4), some (.int v5), some (.int v6)]) rfl rfl ?_
      refine G_iload h dX9_may_56 rfl rfl ?_
      refine G_iload h dX9_may_58 rfl rfl ?_
      refine G_iand h dX9_may_60 rfl ?_
      refine G_istore h dX9_may_61  (by decide) (L' := [some (.ref v0), some (.int v1), some (.int v2), some (.int (v3 + 1)), some (.int (v4 &&& v6)), some (.int v5), some (.int v6)]) rfl rfl ?_
      refine G_iload h dX9_may_63 rfl rfl ?_
      refine G_iload h dX9_may_65 rfl rfl ?_
      refine G_ior h dX9_may_67 rfl ?_
      refine G_istore h dX9_may_68  (by decide) (L' := [some (.ref v0), some (.int v1), some (.int v2), some (.int (v3 + 1)), some (.int (v4 &&& v6)), some (.int (v5 ||| v6)), some (.int v6)]) rfl rfl ?_
      refine G_iinc2 h dX9_may_70 rfl ki_1 (by decide) (L' := [some (.ref v0), some (.int v1), some (.int v2), some (.int (v3 + 1)), some (.int (v4 &&& v6)), some (.int (v5 ||| v6)), some (.int (v6 + 1))]) rfl rfl ?_
      refine G_goto h dX9_may_73 (tgt := 35) (by decide) ?_
      exact hk35 _ _ _ _ _ _ _ _ h_v0 hf
def f_X9_may_L35 (E : Env1) : Nat → Mem → Nat → Int32 → Int32 → Int32 → Int32 → Int32 → Int32 → (Option (Int32 × Mem))
  | 0 => fun _ _ _ _ _ _ _ _ => none
  | n + 1 => b_X9_may_L35 E (f_X9_may_L35 E n)
theorem o_X9_may_L35 {X : Ctx} {l0 : Launch} {E : Env1} (h : Cx X l0 E RX9 cX9_may (some .int) 7 rm_X9_may) (hE : WF E) {M' : Mem} {r : Int32} (hR : RetI X E cX9_may r M') : ∀ (n : Nat) (M : Mem) (v0 : Nat) (v1 : Int32) (v2 : Int32) (v3 : Int32) (v4 : Int32) (v5 : Int32) (v6 : Int32), isK E v0 8 → f_X9_may_L35 E n M v0 v1 v2 v3 v4 v5 v6 = some (r, M') → G X E (0, 0) 35 [some (.ref v0), some (.int v1), some (.int v2), some (.int v3), some (.int v4), some (.int v5), some (.int v6)] [] M := by
  intro n
  induction n with
  | zero =>
    intro _ _ _ _ _ _ _ _ a0 hf
    have h0 : (none : Option (Int32 × Mem)) = some (r, M') := hf
    cases h0
  | succ n ih =>
    intro _ _ _ _ _ _ _ _ a0 hf
    exact ob_X9_may_L35 h hE hR  ih a0 hf
def f_X9_may (E : Env1) (M : Mem) (v0 : Nat) (v1 : Int32) (v2 : Int32) : Option (Int32 × Mem) :=
  if (f_X9_isOne E M v0 v1) = 0 then (
    nm (f_X9_bad E M v0) fun x3 =>
    some (x3.1, x3.2))
  else (
    if (f_X9_in E M v2 (0 : Int32) (2 : Int32)) = 0 then (
      nm (f_X9_bad E M v0) fun x6 =>
      some (x6.1, x6.2))
    else (f_X9_may_L35 E FU M v0 v1 v2 (0 : Int32) (255 : Int32) (0 : Int32) (0 : Int32)))
set_option maxRecDepth 100000 in
set_option maxHeartbeats 4000000 in
theorem ok_X9_may {E : Env1} (hE : WF E) (l0 : Launch) {M : Mem} {M' : Mem} {v0 : Nat} {v1 : Int32} {v2 : Int32} {r : Int32} (h0 : isK E v0 8) (hf : f_X9_may E M v0 v1 v2 = some (r, M')) : Met l0 yX9_may (wsA yX9_may cX9_may 7 (some .int)) rm_X9_may (CP E M [.ref v0, .int v1, .int v2]) (CQi E r M') 0 0 (eA E) := by
  unfold f_X9_may at hf
  refine mtI l0 (by decide +kernel) (Nat.le_of_ble_eq_true rfl) (L0 := [some (.ref v0), some (.int v1), some (.int v2), none, none, none, none]) rfl (fun X h hR => ?_)
  refine G_aload_n h dX9_may_0 (i := 0) rfl rfl rfl ?_
  refine G_iload_n h dX9_may_1 (i := 1) rfl rfl rfl ?_
  refine cl_X9_216 h (ok_X9_isOne hE _ h0 (r := f_X9_isOne E M v0 v1) rfl) dX9_may_2 h0 (as := [.int v1]) rfl rfl ⟨rfl, rfl, Nat.le_of_ble_eq_true rfl, Nat.le_of_ble_eq_true rfl⟩ rfl (Nat.le_of_ble_eq_true rfl) (fun z1 => ?_)
  refine G_if_eq h dX9_may_5 (tgt := 17) (by decide) rfl (fun c2 => ?_) (fun c2 => ?_)
  · have hf := it_t c2 hf
    refine G_aload_n h dX9_may_17 (i := 0) rfl rfl rfl ?_
    obtain ⟨x3, hx3⟩ : ∃ x, x = f_X9_bad E M v0 := ⟨_, rfl⟩
    have hf := nm_eq hx3 hf
    refine cl_X9_95 h (ok_X9_bad hE _ h0 hx3.symm) dX9_may_18 h0 (as := []) rfl rfl ⟨rfl, rfl, Nat.le_of_ble_eq_true rfl, Nat.le_of_ble_eq_true rfl⟩ rfl (Nat.le_of_ble_eq_true rfl) ?_
    exact pwI hR dX9_may_21 hf
  · have hf := it_f c2 hf
    refine G_iload_n h dX9_may_8 (i := 2) rfl rfl rfl ?_
    refine G_iconst h dX9_may_9 ki_0 rfl ?_
    refine G_iconst h dX9_may_10 ki_2 rfl ?_
    refine cl_X9_91 h (ok_X9_in hE _  (r := f_X9_in E M v2 (0 : Int32) (2 : Int32)) rfl) dX9_may_11 (as := [.int v2, .int (0 : Int32), .int (2 : Int32)]) rfl rfl ⟨rfl, rfl, Nat.le_of_ble_eq_true rfl, Nat.le_of_ble_eq_true rfl⟩ rfl (Nat.le_of_ble_eq_true rfl) (fun z4 => ?_)
    refine G_if_ne h dX9_may_14 (tgt := 22) (by decide) rfl (fun c5 => ?_) (fun c5 => ?_)
    · have hf := it_f c5 hf
      refine G_iconst h dX9_may_22 ki_0 rfl ?_
      refine G_istore_n h dX9_may_23 (i := 3) rfl (by decide) (L' := [some (.ref v0), some (.int v1), some (.int v2), some (.int (0 : Int32)), none, none, none]) rfl rfl ?_
      refine G_sipush h dX9_may_24 ks_255 rfl ?_
      refine G_istore h dX9_may_27  (by decide) (L' := [some (.ref v0), some (.int v1), some (.int v2), some (.int (0 : Int32)), some (.int (255 : Int32)), none, none]) rfl rfl ?_
      refine G_iconst h dX9_may_29 ki_0 rfl ?_
      refine G_istore h dX9_may_30  (by decide) (L' := [some (.ref v0), some (.int v1), some (.int v2), some (.int (0 : Int32)), some (.int (255 : Int32)), some (.int (0 : Int32)), none]) rfl rfl ?_
      refine G_iconst h dX9_may_32 ki_0 rfl ?_
      refine G_istore h dX9_may_33  (by decide) (L' := [some (.ref v0), some (.int v1), some (.int v2), some (.int (0 : Int32)), some (.int (255 : Int32)), some (.int (0 : Int32)), some (.int (0 : Int32))]) rfl rfl ?_
      exact o_X9_may_L35 h hE hR  FU _ _ _ _ _ _ _ _ h0 hf
    · have hf := it_t c5 hf
      refine G_aload_n h dX9_may_17 (i := 0) rfl rfl rfl ?_
      obtain ⟨x6, hx6⟩ : ∃ x, x = f_X9_bad E M v0 := ⟨_, rfl⟩
      have hf := nm_eq hx6 hf
      refine cl_X9_95 h (ok_X9_bad hE _ h0 hx6.symm) dX9_may_18 h0 (as := []) rfl rfl ⟨rfl, rfl, Nat.le_of_ble_eq_true rfl, Nat.le_of_ble_eq_true rfl⟩ rfl (Nat.le_of_ble_eq_true rfl) ?_
      exact pwI hR dX9_may_21 hf
def rm_X9_meets : Room := { frames := 5, cells := 0, slots := 0, locals := 114 }
def f_X9_meets (E : Env1) (M : Mem) (v0 : Nat) (v1 : Int32) (v2 : Int32) : Option (Int32 × Mem) :=
  if (f_X9_isOne E M v0 v1) = 0 then (
    nm (f_X9_bad E M v0) fun x3 =>
    some (x3.1, x3.2))
  else (
    if (f_X9_isStep E M v2) = 0 then (
      nm (f_X9_bad E M v0) fun x15 =>
      some (x15.1, x15.2))
    else (
      gd v1 6 (if (f_X9_has E M (mi M (rr E v0 10) (ix v1)) v2) = 0 then (
        if (mi M v0 2) = (9999 : Int32) then (
          nm (f_X9_no E M v0) fun x14 =>
          some (x14.1, x14.2))
        else (
          (f_X9_notes E M v0).bind fun x11 =>
          (f_X9_learns E x11 v0 v1 v2).bind fun x12 =>
          (f_X9_passes E x12 v0).bind fun x13 =>
          some (((mi x13 (rr E v0 10) (ix v1)) >>> (v2 &&& 31)) &&& (1 : Int32), x13)))
      else (
        nm (f_X9_no E M v0) fun x9 =>
        some (x9.1, x9.2)))))
set_option maxRecDepth 100000 in
set_option maxHeartbeats 4000000 in
theorem ok_X9_meets {E : Env1} (hE : WF E) (l0 : Launch) {M : Mem} {M' : Mem} {v0 : Nat} {v1 : Int32} {v2 : Int32} {r : Int32} (h0 : isK E v0 8) (hf : f_X9_meets E M v0 v1 v2 = some (r, M')) : Met l0 yX9_meets (wsA yX9_meets cX9_meets 3 (some .int)) rm_X9_meets (CP E M [.ref v0, .int v1, .int v2]) (CQi E r M') 0 0 (eA E) := by
  unfold f_X9_meets at hf
  refine mtI l0 (by decide +kernel) (Nat.le_of_ble_eq_true rfl) (L0 := [some (.ref v0), some (.int v1), some (.int v2)]) rfl (fun X h hR => ?_)
  refine G_aload_n h dX9_meets_0 (i := 0) rfl rfl rfl ?_
  refine G_iload_n h dX9_meets_1 (i := 1) rfl rfl rfl ?_
  refine cl_X9_216 h (ok_X9_isOne hE _ h0 (r := f_X9_isOne E M v0 v1) rfl) dX9_meets_2 h0 (as := [.int v1]) rfl rfl ⟨rfl, rfl, Nat.le_of_ble_eq_true rfl, Nat.le_of_ble_eq_true rfl⟩ rfl (Nat.le_of_ble_eq_true rfl) (fun z1 => ?_)
  refine G_if_eq h dX9_meets_5 (tgt := 15) (by decide) rfl (fun c2 => ?_) (fun c2 => ?_)
  · have hf := it_t c2 hf
    refine G_aload_n h dX9_meets_15 (i := 0) rfl rfl rfl ?_
    obtain ⟨x3, hx3⟩ : ∃ x, x = f_X9_bad E M v0 := ⟨_, rfl⟩
    have hf := nm_eq hx3 hf
    refine cl_X9_95 h (ok_X9_bad hE _ h0 hx3.symm) dX9_meets_16 h0 (as := []) rfl rfl ⟨rfl, rfl, Nat.le_of_ble_eq_true rfl, Nat.le_of_ble_eq_true rfl⟩ rfl (Nat.le_of_ble_eq_true rfl) ?_
    exact pwI hR dX9_meets_19 hf
  · have hf := it_f c2 hf
    refine G_iload_n h dX9_meets_8 (i := 2) rfl rfl rfl ?_
    refine cl_X9_219 h (ok_X9_isStep hE _  (r := f_X9_isStep E M v2) rfl) dX9_meets_9 (as := [.int v2]) rfl rfl ⟨rfl, rfl, Nat.le_of_ble_eq_true rfl, Nat.le_of_ble_eq_true rfl⟩ rfl (Nat.le_of_ble_eq_true rfl) (fun z4 => ?_)
    refine G_if_ne h dX9_meets_12 (tgt := 20) (by decide) rfl (fun c5 => ?_) (fun c5 => ?_)
    · have hf := it_f c5 hf
      refine G_aload_n h dX9_meets_20 (i := 0) rfl rfl rfl ?_
      refine gf_X9_22 h hE dX9_meets_21 h0 rfl ?_
      refine G_iload_n h dX9_meets_24 (i := 1) rfl rfl rfl ?_
      obtain ⟨g6, hf⟩ := gd_some hf
      refine G_iald h dX9_meets_25 ((w_8_10 hE h0).2) g6 (jx := (ix v1)) rfl rfl ?_
      refine G_iload_n h dX9_meets_26 (i := 2) rfl rfl rfl ?_
      refine cl_X9_189 h (ok_X9_has hE _  (r := f_X9_has E M (mi M (rr E v0 10) (ix v1)) v2) rfl) dX9_meets_27 (as := [.int (mi M (rr E v0 10) (ix v1)), .int v2]) rfl rfl ⟨rfl, rfl, Nat.le_of_ble_eq_true rfl, Nat.le_of_ble_eq_true rfl⟩ rfl (Nat.le_of_ble_eq_true rfl) (fun z7 => ?_)
      refine G_if_ne h dX9_meets_30 (tgt := 43) (by decide) rfl (fun c8 => ?_) (fun c8 => ?_)
      · have hf := it_f c8 hf
        refine G_aload_n h dX9_meets_43 (i := 0) rfl rfl rfl ?_
        obtain ⟨x9, hx9⟩ : ∃ x, x = f_X9_no E M v0 := ⟨_, rfl⟩
        have hf := nm_eq hx9 hf
        refine cl_X9_222 h (ok_X9_no hE _ h0 hx9.symm) dX9_meets_44 h0 (as := []) rfl rfl ⟨rfl, rfl, Nat.le_of_ble_eq_true rfl, Nat.le_of_ble_eq_true rfl⟩ rfl (Nat.le_of_ble_eq_true rfl) ?_
        exact pwI hR dX9_meets_47 hf
      · have hf := it_t c8 hf
        refine G_aload_n h dX9_meets_33 (i := 0) rfl rfl rfl ?_
        refine gf_X9_73 h dX9_meets_34 h0 rfl ?_
        refine G_sipush h dX9_meets_37 ks_9999 rfl ?_
        refine G_icmp_ne h dX9_meets_40 (tgt := 48) (by decide) rfl (fun c10 => ?_) (fun c10 => ?_)
        · have hf := it_f c10 hf
          refine G_aload_n h dX9_meets_48 (i := 0) rfl rfl rfl ?_
          obtain ⟨x11, hx11, hf⟩ := bd hf
          refine cl_X9_225 h (ok_X9_notes hE _ h0 hx11) dX9_meets_49 h0 (as := []) rfl rfl ⟨rfl, rfl, Nat.le_of_ble_eq_true rfl, Nat.le_of_ble_eq_true rfl⟩ rfl (Nat.le_of_ble_eq_true rfl) ?_
          refine G_aload_n h dX9_meets_52 (i := 0) rfl rfl rfl ?_
          refine G_iload_n h dX9_meets_53 (i := 1) rfl rfl rfl ?_
          refine G_iload_n h dX9_meets_54 (i := 2) rfl rfl rfl ?_
          obtain ⟨x12, hx12, hf⟩ := bd hf
          refine cl_X9_228 h (ok_X9_learns hE _ h0 hx12) dX9_meets_55 h0 (as := [.int v1, .int v2]) rfl rfl ⟨rfl, rfl, Nat.le_of_ble_eq_true rfl, Nat.le_of_ble_eq_true rfl⟩ rfl (Nat.le_of_ble_eq_true rfl) ?_
          refine G_aload_n h dX9_meets_58 (i := 0) rfl rfl rfl ?_
          obtain ⟨x13, hx13, hf⟩ := bd hf
          refine cl_X9_204 h (ok_X9_passes hE _ h0 hx13) dX9_meets_59 h0 (as := []) rfl rfl ⟨rfl, rfl, Nat.le_of_ble_eq_true rfl, Nat.le_of_ble_eq_true rfl⟩ rfl (Nat.le_of_ble_eq_true rfl) ?_
          refine G_aload_n h dX9_meets_62 (i := 0) rfl rfl rfl ?_
          refine gf_X9_22 h hE dX9_meets_63 h0 rfl ?_
          refine G_iload_n h dX9_meets_66 (i := 1) rfl rfl rfl ?_
          refine G_iald h dX9_meets_67 ((w_8_10 hE h0).2) g6 (jx := (ix v1)) rfl rfl ?_
          refine G_iload_n h dX9_meets_68 (i := 2) rfl rfl rfl ?_
          refine G_ishr h dX9_meets_69 rfl ?_
          refine G_iconst h dX9_meets_70 ki_1 rfl ?_
          refine G_iand h dX9_meets_71 rfl ?_
          exact pwI hR dX9_meets_72 hf
        · have hf := it_t c10 hf
          refine G_aload_n h dX9_meets_43 (i := 0) rfl rfl rfl ?_
          obtain ⟨x14, hx14⟩ : ∃ x, x = f_X9_no E M v0 := ⟨_, rfl⟩
          have hf := nm_eq hx14 hf
          refine cl_X9_222 h (ok_X9_no hE _ h0 hx14.symm) dX9_meets_44 h0 (as := []) rfl rfl ⟨rfl, rfl, Nat.le_of_ble_eq_true rfl, Nat.le_of_ble_eq_true rfl⟩ rfl (Nat.le_of_ble_eq_true rfl) ?_
          exact pwI hR dX9_meets_47 hf
    · have hf := it_t c5 hf
      refine G_aload_n h dX9_meets_15 (i := 0) rfl rfl rfl ?_
      obtain ⟨x15, hx15⟩ : ∃ x, x = f_X9_bad E M v0 := ⟨_, rfl⟩
      have hf := nm_eq hx15 hf
      refine cl_X9_95 h (ok_X9_bad hE _ h0 hx15.symm) dX9_meets_16 h0 (as := []) rfl rfl ⟨rfl, rfl, Nat.le_of_ble_eq_true rfl, Nat.le_of_ble_eq_true rfl⟩ rfl (Nat.le_of_ble_eq_true rfl) ?_
      exact pwI hR dX9_meets_19 hf
def rm_X9_note : Room := { frames := 2, cells := 0, slots := 0, locals := 42 }
def f_X9_note (E : Env1) (M : Mem) (v0 : Nat) (v1 : Int32) (v2 : Int32) (v3 : Int32) (v4 : Int32) : Option (Int32 × Mem) :=
  if (f_X9_isStep E M v1) = 0 then (
    nm (f_X9_bad E M v0) fun x3 =>
    some (x3.1, x3.2))
  else (
    if (f_X9_in E M v2 (1 : Int32) (12 : Int32)) = 0 then (
      nm (f_X9_bad E M v0) fun x6 =>
      some (x6.1, x6.2))
    else (
      if (f_X9_in E M v3 (0 : Int32) (23 : Int32)) = 0 then (
        nm (f_X9_bad E M v0) fun x9 =>
        some (x9.1, x9.2))
      else (
        if (f_X9_in E M v4 (0 : Int32) (9 : Int32)) = 0 then (
          nm (f_X9_bad E M v0) fun x20 =>
          some (x20.1, x20.2))
        else (
          if (mi M v0 5) = (6 : Int32) then (
            nm (f_X9_full E M v0) fun x19 =>
            some (x19.1, x19.2))
          else (
            gd ((4 : Int32) * (mi M v0 5)) 24 (gd (((4 : Int32) * (mi (wi M (rr E v0 13) (ix ((4 : Int32) * (mi M v0 5))) v1) v0 5)) + (1 : Int32)) 24 (nm (wi (wi M (rr E v0 13) (ix ((4 : Int32) * (mi M v0 5))) v1) (rr E v0 13) (ix (((4 : Int32) * (mi (wi M (rr E v0 13) (ix ((4 : Int32) * (mi M v0 5))) v1) v0 5)) + (1 : Int32))) v2) fun M15 =>
            gd (((4 : Int32) * (mi M15 v0 5)) + (2 : Int32)) 24 (gd (((4 : Int32) * (mi (wi M15 (rr E v0 13) (ix (((4 : Int32) * (mi M15 v0 5)) + (2 : Int32))) v3) v0 5)) + (3 : Int32)) 24 (nm (wi (wi M15 (rr E v0 13) (ix (((4 : Int32) * (mi M15 v0 5)) + (2 : Int32))) v3) (rr E v0 13) (ix (((4 : Int32) * (mi (wi M15 (rr E v0 13) (ix (((4 : Int32) * (mi M15 v0 5)) + (2 : Int32))) v3) v0 5)) + (3 : Int32))) v4) fun M18 =>
            some (mi (wi M18 v0 5 ((mi M18 v0 5) + (1 : Int32))) v0 5, wi M18 v0 5 ((mi M18 v0 5) + (1 : Int32))))))))))))
set_option maxRecDepth 100000 in
set_option maxHeartbeats 4000000 in
theorem ok_X9_note {E : Env1} (hE : WF E) (l0 : Launch) {M : Mem} {M' : Mem} {v0 : Nat} {v1 : Int32} {v2 : Int32} {v3 : Int32} {v4 : Int32} {r : Int32} (h0 : isK E v0 8) (hf : f_X9_note E M v0 v1 v2 v3 v4 = some (r, M')) : Met l0 yX9_note (wsA yX9_note cX9_note 5 (some .int)) rm_X9_note (CP E M [.ref v0, .int v1, .int v2, .int v3, .int v4]) (CQi E r M') 0 0 (eA E) := by
  unfold f_X9_note at hf
  refine mtI l0 (by decide +kernel) (Nat.le_of_ble_eq_true rfl) (L0 := [some (.ref v0), some (.int v1), some (.int v2), some (.int v3), some (.int v4)]) rfl (fun X h hR => ?_)
  refine G_iload_n h dX9_note_0 (i := 1) rfl rfl rfl ?_
  refine cl_X9_219 h (ok_X9_isStep hE _  (r := f_X9_isStep E M v1) rfl) dX9_note_1 (as := [.int v1]) rfl rfl ⟨rfl, rfl, Nat.le_of_ble_eq_true rfl, Nat.le_of_ble_eq_true rfl⟩ rfl (Nat.le_of_ble_eq_true rfl) (fun z1 => ?_)
  refine G_if_eq h dX9_note_4 (tgt := 38) (by decide) rfl (fun c2 => ?_) (fun c2 => ?_)
  · have hf := it_t c2 hf
    refine G_aload_n h dX9_note_38 (i := 0) rfl rfl rfl ?_
    obtain ⟨x3, hx3⟩ : ∃ x, x = f_X9_bad E M v0 := ⟨_, rfl⟩
    have hf := nm_eq hx3 hf
    refine cl_X9_95 h (ok_X9_bad hE _ h0 hx3.symm) dX9_note_39 h0 (as := []) rfl rfl ⟨rfl, rfl, Nat.le_of_ble_eq_true rfl, Nat.le_of_ble_eq_true rfl⟩ rfl (Nat.le_of_ble_eq_true rfl) ?_
    exact pwI hR dX9_note_42 hf
  · have hf := it_f c2 hf
    refine G_iload_n h dX9_note_7 (i := 2) rfl rfl rfl ?_
    refine G_iconst h dX9_note_8 ki_1 rfl ?_
    refine G_bipush h dX9_note_9 kb_12 rfl ?_
    refine cl_X9_91 h (ok_X9_in hE _  (r := f_X9_in E M v2 (1 : Int32) (12 : Int32)) rfl) dX9_note_11 (as := [.int v2, .int (1 : Int32), .int (12 : Int32)]) rfl rfl ⟨rfl, rfl, Nat.le_of_ble_eq_true rfl, Nat.le_of_ble_eq_true rfl⟩ rfl (Nat.le_of_ble_eq_true rfl) (fun z4 => ?_)
    refine G_if_eq h dX9_note_14 (tgt := 38) (by decide) rfl (fun c5 => ?_) (fun c5 => ?_)
    · have hf := it_t c5 hf
      refine G_aload_n h dX9_note_38 (i := 0) rfl rfl rfl ?_
      obtain ⟨x6, hx6⟩ : ∃ x, x = f_X9_bad E M v0 := ⟨_, rfl⟩
      have hf := nm_eq hx6 hf
      refine cl_X9_95 h (ok_X9_bad hE _ h0 hx6.symm) dX9_note_39 h0 (as := []) rfl rfl ⟨rfl, rfl, Nat.le_of_ble_eq_true rfl, Nat.le_of_ble_eq_true rfl⟩ rfl (Nat.le_of_ble_eq_true rfl) ?_
      exact pwI hR dX9_note_42 hf
    · have hf := it_f c5 hf
      refine G_iload_n h dX9_note_17 (i := 3) rfl rfl rfl ?_
      refine G_iconst h dX9_note_18 ki_0 rfl ?_
      refine G_bipush h dX9_note_19 kb_23 rfl ?_
      refine cl_X9_91 h (ok_X9_in hE _  (r := f_X9_in E M v3 (0 : Int32) (23 : Int32)) rfl) dX9_note_21 (as := [.int v3, .int (0 : Int32), .int (23 : Int32)]) rfl rfl ⟨rfl, rfl, Nat.le_of_ble_eq_true rfl, Nat.le_of_ble_eq_true rfl⟩ rfl (Nat.le_of_ble_eq_true rfl) (fun z7 => ?_)
      refine G_if_eq h dX9_note_24 (tgt := 38) (by decide) rfl (fun c8 => ?_) (fun c8 => ?_)
      · have hf := it_t c8 hf
        refine G_aload_n h dX9_note_38 (i := 0) rfl rfl rfl ?_
        obtain ⟨x9, hx9⟩ : ∃ x, x = f_X9_bad E M v0 := ⟨_, rfl⟩
        have hf := nm_eq hx9 hf
        refine cl_X9_95 h (ok_X9_bad hE _ h0 hx9.symm) dX9_note_39 h0 (as := []) rfl rfl ⟨rfl, rfl, Nat.le_of_ble_eq_true rfl, Nat.le_of_ble_eq_true rfl⟩ rfl (Nat.le_of_ble_eq_true rfl) ?_
        exact pwI hR dX9_note_42 hf
      · have hf := it_f c8 hf
        refine G_iload h dX9_note_27 rfl rfl ?_
        refine G_iconst h dX9_note_29 ki_0 rfl ?_
        refine G_bipush h dX9_note_30 kb_9 rfl ?_
        refine cl_X9_91 h (ok_X9_in hE _  (r := f_X9_in E M v4 (0 : Int32) (9 : Int32)) rfl) dX9_note_32 (as := [.int v4, .int (0 : Int32), .int (9 : Int32)]) rfl rfl ⟨rfl, rfl, Nat.le_of_ble_eq_true rfl, Nat.le_of_ble_eq_true rfl⟩ rfl (Nat.le_of_ble_eq_true rfl) (fun z10 => ?_)
        refine G_if_ne h dX9_note_35 (tgt := 43) (by decide) rfl (fun c11 => ?_) (fun c11 => ?_)
        · have hf := it_f c11 hf
          refine G_aload_n h dX9_note_43 (i := 0) rfl rfl rfl ?_
          refine gf_X9_82 h dX9_note_44 h0 rfl ?_
          refine G_bipush h dX9_note_47 kb_6 rfl ?_
          refine G_icmp_ne h dX9_note_49 (tgt := 57) (by decide) rfl (fun c12 => ?_) (fun c12 => ?_)
          · have hf := it_f c12 hf
            refine G_aload_n h dX9_note_57 (i := 0) rfl rfl rfl ?_
            refine gf_X9_31 h hE dX9_note_58 h0 rfl ?_
            refine G_iconst h dX9_note_61 ki_4 rfl ?_
            refine G_aload_n h dX9_note_62 (i := 0) rfl rfl rfl ?_
            refine gf_X9_82 h dX9_note_63 h0 rfl ?_
            refine G_imul h dX9_note_66 rfl ?_
            refine G_iload_n h dX9_note_67 (i := 1) rfl rfl rfl ?_
            obtain ⟨g13, hf⟩ := gd_some hf
            refine G_iast h dX9_note_68 ((w_8_13 hE h0).2) g13 (jx := (ix ((4 : Int32) * (mi M v0 5)))) rfl rfl ?_
            refine G_aload_n h dX9_note_69 (i := 0) rfl rfl rfl ?_
            refine gf_X9_31 h hE dX9_note_70 h0 rfl ?_
            refine G_iconst h dX9_note_73 ki_4 rfl ?_
            refine G_aload_n h dX9_note_74 (i := 0) rfl rfl rfl ?_
            refine gf_X9_82 h dX9_note_75 h0 rfl ?_
            refine G_imul h dX9_note_78 rfl ?_
            refine G_iconst h dX9_note_79 ki_1 rfl ?_
            refine G_iadd h dX9_note_80 rfl ?_
            refine G_iload_n h dX9_note_81 (i := 2) rfl rfl rfl ?_
            obtain ⟨g14, hf⟩ := gd_some hf
            refine G_iast h dX9_note_82 ((w_8_13 hE h0).2) g14 (jx := (ix (((4 : Int32) * (mi (wi M (rr E v0 13) (ix ((4 : Int32) * (mi M v0 5))) v1) v0 5)) + (1 : Int32)))) rfl rfl ?_
            refine G_nmM (fun M15 hM15 => ?_)
            have hf := nm_eq hM15 hf
            refine G_aload_n h dX9_note_83 (i := 0) rfl rfl rfl ?_
            refine gf_X9_31 h hE dX9_note_84 h0 rfl ?_
            refine G_iconst h dX9_note_87 ki_4 rfl ?_
            refine G_aload_n h dX9_note_88 (i := 0) rfl rfl rfl ?_
            refine gf_X9_82 h dX9_note_89 h0 rfl ?_
            refine G_imul h dX9_note_92 rfl ?_
            refine G_iconst h dX9_note_93 ki_2 rfl ?_
            refine G_iadd h dX9_note_94 rfl ?_
            refine G_iload_n h dX9_note_95 (i := 3) rfl rfl rfl ?_
            obtain ⟨g16, hf⟩ := gd_some hf
            refine G_iast h dX9_note_96 ((w_8_13 hE h0).2) g16 (jx := (ix (((4 : Int32) * (mi M15 v0 5)) + (2 : Int32)))) rfl rfl ?_
            refine G_aload_n h dX9_note_97 (i := 0) rfl rfl rfl ?_
            refine gf_X9_31 h hE dX9_note_98 h0 rfl ?_
            refine G_iconst h dX9_note_101 ki_4 rfl ?_
            refine G_aload_n h dX9_note_102 (i := 0) rfl rfl rfl ?_
            refine gf_X9_82 h dX9_note_103 h0 rfl ?_
            refine G_imul h dX9_note_106 rfl ?_
            refine G_iconst h dX9_note_107 ki_3 rfl ?_
            refine G_iadd h dX9_note_108 rfl ?_
            refine G_iload h dX9_note_109 rfl rfl ?_
            obtain ⟨g17, hf⟩ := gd_some hf
            refine G_iast h dX9_note_111 ((w_8_13 hE h0).2) g17 (jx := (ix (((4 : Int32) * (mi (wi M15 (rr E v0 13) (ix (((4 : Int32) * (mi M15 v0 5)) + (2 : Int32))) v3) v0 5)) + (3 : Int32)))) rfl rfl ?_
            refine G_nmM (fun M18 hM18 => ?_)
            have hf := nm_eq hM18 hf
            refine G_aload_n h dX9_note_112 (i := 0) rfl rfl rfl ?_
            refine G_dup h dX9_note_113 rfl rfl ?_
            refine gf_X9_82 h dX9_note_114 h0 rfl ?_
            refine G_iconst h dX9_note_117 ki_1 rfl ?_
            refine G_iadd h dX9_note_118 rfl ?_
            refine pf_X9_82 h dX9_note_119 h0 rfl ?_
            refine G_aload_n h dX9_note_122 (i := 0) rfl rfl rfl ?_
            refine gf_X9_82 h dX9_note_123 h0 rfl ?_
            exact pwI hR dX9_note_126 hf
          · have hf := it_t c12 hf
            refine G_aload_n h dX9_note_52 (i := 0) rfl rfl rfl ?_
            obtain ⟨x19, hx19⟩ : ∃ x, x = f_X9_full E M v0 := ⟨_, rfl⟩
            have hf := nm_eq hx19 hf
            refine cl_X9_99 h (ok_X9_full hE _ h0 hx19.symm) dX9_note_53 h0 (as := []) rfl rfl ⟨rfl, rfl, Nat.le_of_ble_eq_true rfl, Nat.le_of_ble_eq_true rfl⟩ rfl (Nat.le_of_ble_eq_true rfl) ?_
            exact pwI hR dX9_note_56 hf
        · have hf := it_t c11 hf
          refine G_aload_n h dX9_note_38 (i := 0) rfl rfl rfl ?_
          obtain ⟨x20, hx20⟩ : ∃ x, x = f_X9_bad E M v0 := ⟨_, rfl⟩
          have hf := nm_eq hx20 hf
          refine cl_X9_95 h (ok_X9_bad hE _ h0 hx20.symm) dX9_note_39 h0 (as := []) rfl rfl ⟨rfl, rfl, Nat.le_of_ble_eq_true rfl, Nat.le_of_ble_eq_true rfl⟩ rfl (Nat.le_of_ble_eq_true rfl) ?_
          exact pwI hR dX9_note_42 hf
def rm_X9_number : Room := { frames := 2, cells := 0, slots := 0, locals := 42 }
def f_X9_number_L77 (E : Env1) (M : Mem) (v0 : Nat) (v1 : Int32) (v2 : Int32) (v3 : Int32) (v4 : Int32) : Option (Int32 × Mem) :=
  if (f_X9_in E M v3 (1 : Int32) (2 : Int32)) = 0 then (some ((0 : Int32), M))
  else (
    if (f_X9_in E M v4 v1 v2) = 0 then (some ((0 : Int32), M))
    else (some ((1 : Int32), wi (wi M v0 18 v4) v0 17 ((mi (wi M v0 18 v4) v0 17) + v3))))
set_option maxRecDepth 100000 in
set_option maxHeartbeats 4000000 in
theorem o_X9_number_L77 {X : Ctx} {l0 : Launch} {E : Env1} (h : Cx X l0 E RX9 cX9_number (some .boolean) 5 rm_X9_number) (hE : WF E) {M' : Mem} {r : Int32} (hR : RetZ X E cX9_number r M') {M : Mem} {v0 : Nat} {v1 : Int32} {v2 : Int32} {v3 : Int32} {v4 : Int32} (h_v0 : isK E v0 8) (hf : f_X9_number_L77 E M v0 v1 v2 v3 v4 = some (r, M')) : G X E (0, 0) 77 [some (.ref v0), some (.int v1), some (.int v2), some (.int v3), some (.int v4)] [] M := by
  unfold f_X9_number_L77 at hf
  refine G_iload_n h dX9_number_77 (i := 3) rfl rfl rfl ?_
  refine G_iconst h dX9_number_78 ki_1 rfl ?_
  refine G_iconst h dX9_number_79 ki_2 rfl ?_
  refine cl_X9_91 h (ok_X9_in hE _  (r := f_X9_in E M v3 (1 : Int32) (2 : Int32)) rfl) dX9_number_80 (as := [.int v3, .int (1 : Int32), .int (2 : Int32)]) rfl rfl ⟨rfl, rfl, Nat.le_of_ble_eq_true rfl, Nat.le_of_ble_eq_true rfl⟩ rfl (Nat.le_of_ble_eq_true rfl) (fun z1 => ?_)
  refine G_if_eq h dX9_number_83 (tgt := 96) (by decide) rfl (fun c2 => ?_) (fun c2 => ?_)
  · have hf := it_t c2 hf
    refine G_iconst h dX9_number_96 ki_0 rfl ?_
    exact pwZ hR dX9_number_97 (Or.inl rfl) hf
  · have hf := it_f c2 hf
    refine G_iload h dX9_number_86 rfl rfl ?_
    refine G_iload_n h dX9_number_88 (i := 1) rfl rfl rfl ?_
    refine G_iload_n h dX9_number_89 (i := 2) rfl rfl rfl ?_
    refine cl_X9_91 h (ok_X9_in hE _  (r := f_X9_in E M v4 v1 v2) rfl) dX9_number_90 (as := [.int v4, .int v1, .int v2]) rfl rfl ⟨rfl, rfl, Nat.le_of_ble_eq_true rfl, Nat.le_of_ble_eq_true rfl⟩ rfl (Nat.le_of_ble_eq_true rfl) (fun z3 => ?_)
    refine G_if_ne h dX9_number_93 (tgt := 98) (by decide) rfl (fun c4 => ?_) (fun c4 => ?_)
    · have hf := it_f c4 hf
      refine G_aload_n h dX9_number_98 (i := 0) rfl rfl rfl ?_
      refine G_iload h dX9_number_99 rfl rfl ?_
      refine pf_X9_132 h dX9_number_101 h_v0 rfl ?_
      refine G_aload_n h dX9_number_104 (i := 0) rfl rfl rfl ?_
      refine G_dup h dX9_number_105 rfl rfl ?_
      refine gf_X9_109 h dX9_number_106 h_v0 rfl ?_
      refine G_iload_n h dX9_number_109 (i := 3) rfl rfl rfl ?_
      refine G_iadd h dX9_number_110 rfl ?_
      refine pf_X9_109 h dX9_number_111 h_v0 rfl ?_
      refine G_iconst h dX9_number_114 ki_1 rfl ?_
      exact pwZ hR dX9_number_115 (Or.inr rfl) hf
    · have hf := it_t c4 hf
      refine G_iconst h dX9_number_96 ki_0 rfl ?_
      exact pwZ hR dX9_number_97 (Or.inl rfl) hf
def b_X9_number_L9 (E : Env1) (k9 : Mem → Nat → Int32 → Int32 → Int32 → Int32 → (Option (Int32 × Mem))) (M : Mem) (v0 : Nat) (v1 : Int32) (v2 : Int32) (v3 : Int32) (v4 : Int32) : Option (Int32 × Mem) :=
  if (mi M v0 16) ≤ ((mi M v0 17) + v3) then (f_X9_number_L77 E M v0 v1 v2 v3 v4)
  else (
    gd ((mi M v0 17) + v3) 150 (if (f_X9_isFigure E M (mi M (rr E v0 15) (ix ((mi M v0 17) + v3)))) = 0 then (f_X9_number_L77 E M v0 v1 v2 v3 v4)
    else (
      if (2 : Int32) ≤ v3 then (k9 M v0 v1 v2 (v3 + 1) v4)
      else (
        nm ((((10 : Int32) * v4) + (mi M (rr E v0 15) (ix ((mi M v0 17) + v3)))) - (48 : Int32)) fun x6 =>
        k9 M v0 v1 v2 (v3 + 1) x6))))
set_option maxRecDepth 100000 in
set_option maxHeartbeats 4000000 in
theorem ob_X9_number_L9 {X : Ctx} {l0 : Launch} {E : Env1} (h : Cx X l0 E RX9 cX9_number (some .boolean) 5 rm_X9_number) (hE : WF E) {M' : Mem} {r : Int32} (hR : RetZ X E cX9_number r M') {k9 : Mem → Nat → Int32 → Int32 → Int32 → Int32 → (Option (Int32 × Mem))} (hk9 : ∀ (M : Mem) (v0 : Nat) (v1 : Int32) (v2 : Int32) (v3 : Int32) (v4 : Int32), isK E v0 8 → k9 M v0 v1 v2 v3 v4 = some (r, M') → G X E (0, 0) 9 [some (.ref v0), some (.int v1), some (.int v2), some (.int v3), some (.int v4)] [] M) {M : Mem} {v0 : Nat} {v1 : Int32} {v2 : Int32} {v3 : Int32} {v4 : Int32} (h_v0 : isK E v0 8) (hf : b_X9_number_L9 E k9 M v0 v1 v2 v3 v4 = some (r, M')) : G X E (0, 0) 9 [some (.ref v0), some (.int v1), some (.int v2), some (.int v3), some (.int v4)] [] M := by
  unfold b_X9_number_L9 at hf
  refine G_aload_n h dX9_number_9 (i := 0) rfl rfl rfl ?_
  refine gf_X9_109 h dX9_number_10 h_v0 rfl ?_
  refine G_iload_n h dX9_number_13 (i := 3) rfl rfl rfl ?_
  refine G_iadd h dX9_number_14 rfl ?_
  refine G_aload_n h dX9_number_15 (i := 0) rfl rfl rfl ?_
  refine gf_X9_106 h dX9_number_16 h_v0 rfl ?_
  refine G_icmp_ge h dX9_number_19 (tgt := 77) (by decide) rfl (fun c1 => ?_) (fun c1 => ?_)
  · have hf := it_t c1 hf
    exact o_X9_number_L77 h hE hR h_v0 hf
  · have hf := it_f c1 hf
    refine G_aload_n h dX9_number_22 (i := 0) rfl rfl rfl ?_
    refine gf_X9_37 h hE dX9_number_23 h_v0 rfl ?_
    refine G_aload_n h dX9_number_26 (i := 0) rfl rfl rfl ?_
    refine gf_X9_109 h dX9_number_27 h_v0 rfl ?_
    refine G_iload_n h dX9_number_30 (i := 3) rfl rfl rfl ?_
    refine G_iadd h dX9_number_31 rfl ?_
    obtain ⟨g2, hf⟩ := gd_some hf
    refine G_iald h dX9_number_32 ((w_8_15 hE h_v0).2) g2 (jx := (ix ((mi M v0 17) + v3))) rfl rfl ?_
    refine cl_X9_129 h (ok_X9_isFigure hE _  (r := f_X9_isFigure E M (mi M (rr E v0 15) (ix ((mi M v0 17) + v3)))) rfl) dX9_number_33 (as := [.int (mi M (rr E v0 15) (ix ((mi M v0 17) + v3)))]) rfl rfl ⟨rfl, rfl, Nat.le_of_ble_eq_true rfl, Nat.le_of_ble_eq_true rfl⟩ rfl (Nat.le_of_ble_eq_true rfl) (fun z3 => ?_)
    refine G_if_eq h dX9_number_36 (tgt := 77) (by decide) rfl (fun c4 => ?_) (fun c4 => ?_)
    · have hf := it_t c4 hf
      exact o_X9_number_L77 h hE hR h_v0 hf
    · have hf := it_f c4 hf
      refine G_iload_n h dX9_number_39 (i := 3) rfl rfl rfl ?_
      refine G_iconst h dX9_number_40 ki_2 rfl ?_
      refine G_icmp_ge h dX9_number_41 (tgt := 67) (by decide) rfl (fun c5 => ?_) (fun c5 => ?_)
      · have hf := it_t c5 hf
        refine G_iload h dX9_number_67 rfl rfl ?_
        refine G_istore h dX9_number_69  (by decide) (L' := [some (.ref v0), some (.int v1), some (.int v2), some (.int v3), some (.int v4)]) rfl rfl ?_
        refine G_iinc2 h dX9_number_71 rfl ki_1 (by decide) (L' := [some (.ref v0), some (.int v1), some (.int v2), some (.int (v3 + 1)), some (.int v4)]) rfl rfl ?_
        refine G_goto h dX9_number_74 (tgt := 9) (by decide) ?_
        exact hk9 _ _ _ _ _ _ h_v0 hf
      · have hf := it_f c5 hf
        refine G_bipush h dX9_number_44 kb_10 rfl ?_
        refine G_iload h dX9_number_46 rfl rfl ?_
        refine G_imul h dX9_number_48 rfl ?_
        refine G_aload_n h dX9_number_49 (i := 0) rfl rfl rfl ?_
        refine gf_X9_37 h hE dX9_number_50 h_v0 rfl ?_
        refine G_aload_n h dX9_number_53 (i := 0) rfl rfl rfl ?_
        refine gf_X9_109 h dX9_number_54 h_v0 rfl ?_
        refine G_iload_n h dX9_number_57 (i := 3) rfl rfl rfl ?_
        refine G_iadd h dX9_number_58 rfl ?_
        refine G_iald h dX9_number_59 ((w_8_15 hE h_v0).2) g2 (jx := (ix ((mi M v0 17) + v3))) rfl rfl ?_
        refine G_iadd h dX9_number_60 rfl ?_
        refine G_bipush h dX9_number_61 kb_48 rfl ?_
        refine G_isub h dX9_number_63 rfl ?_
        refine G_goto h dX9_number_64 (tgt := 69) (by decide) ?_
        refine G_nmi (fun x6 hx6 => ?_)
        have hf := nm_eq hx6 hf
        refine G_istore h dX9_number_69  (by decide) (L' := [some (.ref v0), some (.int v1), some (.int v2), some (.int v3), some (.int x6)]) rfl rfl ?_
        refine G_iinc2 h dX9_number_71 rfl ki_1 (by decide) (L' := [some (.ref v0), some (.int v1), some (.int v2), some (.int (v3 + 1)), some (.int x6)]) rfl rfl ?_
        refine G_goto h dX9_number_74 (tgt := 9) (by decide) ?_
        exact hk9 _ _ _ _ _ _ h_v0 hf
def f_X9_number_L9 (E : Env1) : Nat → Mem → Nat → Int32 → Int32 → Int32 → Int32 → (Option (Int32 × Mem))
  | 0 => fun _ _ _ _ _ _ => none
  | n + 1 => b_X9_number_L9 E (f_X9_number_L9 E n)
theorem o_X9_number_L9 {X : Ctx} {l0 : Launch} {E : Env1} (h : Cx X l0 E RX9 cX9_number (some .boolean) 5 rm_X9_number) (hE : WF E) {M' : Mem} {r : Int32} (hR : RetZ X E cX9_number r M') : ∀ (n : Nat) (M : Mem) (v0 : Nat) (v1 : Int32) (v2 : Int32) (v3 : Int32) (v4 : Int32), isK E v0 8 → f_X9_number_L9 E n M v0 v1 v2 v3 v4 = some (r, M') → G X E (0, 0) 9 [some (.ref v0), some (.int v1), some (.int v2), some (.int v3), some (.int v4)] [] M := by
  intro n
  induction n with
  | zero =>
    intro _ _ _ _ _ _ a0 hf
    have h0 : (none : Option (Int32 × Mem)) = some (r, M') := hf
    cases h0
  | succ n ih =>
    intro _ _ _ _ _ _ a0 hf
    exact ob_X9_number_L9 h hE hR  ih a0 hf
def f_X9_number (E : Env1) (M : Mem) (v0 : Nat) (v1 : Int32) (v2 : Int32) : Option (Int32 × Mem) :=
  (f_X9_skip E M v0).bind fun x1 =>
  f_X9_number_L9 E FU x1 v0 v1 v2 (0 : Int32) (0 : Int32)
set_option maxRecDepth 100000 in
set_option maxHeartbeats 4000000 in
theorem ok_X9_number {E : Env1} (hE : WF E) (l0 : Launch) {M : Mem} {M' : Mem} {v0 : Nat} {v1 : Int32} {v2 : Int32} {r : Int32} (h0 : isK E v0 8) (hf : f_X9_number E M v0 v1 v2 = some (r, M')) : Met l0 yX9_number (wsA yX9_number cX9_number 5 (some .boolean)) rm_X9_number (CP E M [.ref v0, .int v1, .int v2]) (CQz E r M') 0 0 (eA E) := by
  unfold f_X9_number at hf
  refine mtZ l0 (by decide +kernel) (Nat.le_of_ble_eq_true rfl) (L0 := [some (.ref v0), some (.int v1), some (.int v2), none, none]) rfl (fun X h hR => ?_)
  refine G_aload_n h dX9_number_0 (i := 0) rfl rfl rfl ?_
  obtain ⟨x1, hx1, hf⟩ := bd hf
  refine cl_X9_126 h (ok_X9_skip hE _ h0 hx1) dX9_number_1 h0 (as := []) rfl rfl ⟨rfl, rfl, Nat.le_of_ble_eq_true rfl, Nat.le_of_ble_eq_true rfl⟩ rfl (Nat.le_of_ble_eq_true rfl) ?_
  refine G_iconst h dX9_number_4 ki_0 rfl ?_
  refine G_istore_n h dX9_number_5 (i := 3) rfl (by decide) (L' := [some (.ref v0), some (.int v1), some (.int v2), some (.int (0 : Int32)), none]) rfl rfl ?_
  refine G_iconst h dX9_number_6 ki_0 rfl ?_
  refine G_istore h dX9_number_7  (by decide) (L' := [some (.ref v0), some (.int v1), some (.int v2), some (.int (0 : Int32)), some (.int (0 : Int32))]) rfl rfl ?_
  exact o_X9_number_L9 h hE hR  FU _ _ _ _ _ _ h0 hf
def rm_X9_of : Room := { frames := 2, cells := 0, slots := 0, locals := 43 }
def f_X9_of (E : Env1) (M : Mem) (v0 : Nat) (v1 : Int32) (v2 : Int32) : Option (Int32 × Mem) :=
  if (f_X9_isOne E M v0 v1) = 0 then (
    nm (f_X9_tenBad E M v0) fun x3 =>
    some (x3.1, x3.2))
  else (
    if (f_X9_in E M v2 (0 : Int32) (3 : Int32)) = 0 then (
      nm (f_X9_tenBad E M v0) fun x13 =>
      some (x13.1, x13.2))
    else (
      if v2 = 0 then (gd v1 6 (some (mi M (rr E v0 7) (ix v1), M)))
      else (
        if v2 = (1 : Int32) then (gd v1 6 (some (mi M (rr E v0 8) (ix v1), M)))
        else (
          if v2 = (2 : Int32) then (gd v1 6 (some (mi M (rr E v0 9) (ix v1), M)))
          else (gd v1 6 (some (mi M (rr E v0 10) (ix v1), M)))))))
set_option maxRecDepth 100000 in
set_option maxHeartbeats 4000000 in
theorem ok_X9_of {E : Env1} (hE : WF E) (l0 : Launch) {M : Mem} {M' : Mem} {v0 : Nat} {v1 : Int32} {v2 : Int32} {r : Int32} (h0 : isK E v0 8) (hf : f_X9_of E M v0 v1 v2 = some (r, M')) : Met l0 yX9_of (wsA yX9_of cX9_of 3 (some .int)) rm_X9_of (CP E M [.ref v0, .int v1, .int v2]) (CQi E r M') 0 0 (eA E) := by
  unfold f_X9_of at hf
  refine mtI l0 (by decide +kernel) (Nat.le_of_ble_eq_true rfl) (L0 := [some (.ref v0), some (.int v1), some (.int v2)]) rfl (fun X h hR => ?_)
  refine G_aload_n h dX9_of_0 (i := 0) rfl rfl rfl ?_
  refine G_iload_n h dX9_of_1 (i := 1) rfl rfl rfl ?_
  refine cl_X9_216 h (ok_X9_isOne hE _ h0 (r := f_X9_isOne E M v0 v1) rfl) dX9_of_2 h0 (as := [.int v1]) rfl rfl ⟨rfl, rfl, Nat.le_of_ble_eq_true rfl, Nat.le_of_ble_eq_true rfl⟩ rfl (Nat.le_of_ble_eq_true rfl) (fun z1 => ?_)
  refine G_if_eq h dX9_of_5 (tgt := 17) (by decide) rfl (fun c2 => ?_) (fun c2 => ?_)
  · have hf := it_t c2 hf
    refine G_aload_n h dX9_of_17 (i := 0) rfl rfl rfl ?_
    obtain ⟨x3, hx3⟩ : ∃ x, x = f_X9_tenBad E M v0 := ⟨_, rfl⟩
    have hf := nm_eq hx3 hf
    refine cl_X9_232 h (ok_X9_tenBad hE _ h0 hx3.symm) dX9_of_18 h0 (as := []) rfl rfl ⟨rfl, rfl, Nat.le_of_ble_eq_true rfl, Nat.le_of_ble_eq_true rfl⟩ rfl (Nat.le_of_ble_eq_true rfl) ?_
    exact pwI hR dX9_of_21 hf
  · have hf := it_f c2 hf
    refine G_iload_n h dX9_of_8 (i := 2) rfl rfl rfl ?_
    refine G_iconst h dX9_of_9 ki_0 rfl ?_
    refine G_iconst h dX9_of_10 ki_3 rfl ?_
    refine cl_X9_91 h (ok_X9_in hE _  (r := f_X9_in E M v2 (0 : Int32) (3 : Int32)) rfl) dX9_of_11 (as := [.int v2, .int (0 : Int32), .int (3 : Int32)]) rfl rfl ⟨rfl, rfl, Nat.le_of_ble_eq_true rfl, Nat.le_of_ble_eq_true rfl⟩ rfl (Nat.le_of_ble_eq_true rfl) (fun z4 => ?_)
    refine G_if_ne h dX9_of_14 (tgt := 22) (by decide) rfl (fun c5 => ?_) (fun c5 => ?_)
    · have hf := it_f c5 hf
      refine G_iload_n h dX9_of_22 (i := 2) rfl rfl rfl ?_
      refine G_if_ne h dX9_of_23 (tgt := 35) (by decide) rfl (fun c6 => ?_) (fun c6 => ?_)
      · have hf := it_f c6 hf
        refine G_iload_n h dX9_of_35 (i := 2) rfl rfl rfl ?_
        refine G_iconst h dX9_of_36 ki_1 rfl ?_
        refine G_icmp_ne h dX9_of_37 (tgt := 49) (by decide) rfl (fun c7 => ?_) (fun c7 => ?_)
        · have hf := it_f c7 hf
          refine G_iload_n h dX9_of_49 (i := 2) rfl rfl rfl ?_
          refine G_iconst h dX9_of_50 ki_2 rfl ?_
          refine G_icmp_ne h dX9_of_51 (tgt := 63) (by decide) rfl (fun c8 => ?_) (fun c8 => ?_)
          · have hf := it_f c8 hf
            refine G_aload_n h dX9_of_63 (i := 0) rfl rfl rfl ?_
            refine gf_X9_22 h hE dX9_of_64 h0 rfl ?_
            refine G_iload_n h dX9_of_67 (i := 1) rfl rfl rfl ?_
            obtain ⟨g9, hf⟩ := gd_some hf
            refine G_iald h dX9_of_68 ((w_8_10 hE h0).2) g9 (jx := (ix v1)) rfl rfl ?_
            exact pwI hR dX9_of_69 hf
          · have hf := it_t c8 hf
            refine G_aload_n h dX9_of_54 (i := 0) rfl rfl rfl ?_
            refine gf_X9_19 h hE dX9_of_55 h0 rfl ?_
            refine G_iload_n h dX9_of_58 (i := 1) rfl rfl rfl ?_
            obtain ⟨g10, hf⟩ := gd_some hf
            refine G_iald h dX9_of_59 ((w_8_9 hE h0).2) g10 (jx := (ix v1)) rfl rfl ?_
            refine G_goto h dX9_of_60 (tgt := 69) (by decide) ?_
            exact pwI hR dX9_of_69 hf
        · have hf := it_t c7 hf
          refine G_aload_n h dX9_of_40 (i := 0) rfl rfl rfl ?_
          refine gf_X9_16 h hE dX9_of_41 h0 rfl ?_
          refine G_iload_n h dX9_of_44 (i := 1) rfl rfl rfl ?_
          obtain ⟨g11, hf⟩ := gd_some hf
          refine G_iald h dX9_of_45 ((w_8_8 hE h0).2) g11 (jx := (ix v1)) rfl rfl ?_
          refine G_goto h dX9_of_46 (tgt := 69) (by decide) ?_
          exact pwI hR dX9_of_69 hf
      · have hf := it_t c6 hf
        refine G_aload_n h dX9_of_26 (i := 0) rfl rfl rfl ?_
        refine gf_X9_13 h hE dX9_of_27 h0 rfl ?_
        refine G_iload_n h dX9_of_30 (i := 1) rfl rfl rfl ?_
        obtain ⟨g12, hf⟩ := gd_some hf
        refine G_iald h dX9_of_31 ((w_8_7 hE h0).2) g12 (jx := (ix v1)) rfl rfl ?_
        refine G_goto h dX9_of_32 (tgt := 69) (by decide) ?_
        exact pwI hR dX9_of_69 hf
    · have hf := it_t c5 hf
      refine G_aload_n h dX9_of_17 (i := 0) rfl rfl rfl ?_
      obtain ⟨x13, hx13⟩ : ∃ x, x = f_X9_tenBad E M v0 := ⟨_, rfl⟩
      have hf := nm_eq hx13 hf
      refine cl_X9_232 h (ok_X9_tenBad hE _ h0 hx13.symm) dX9_of_18 h0 (as := []) rfl rfl ⟨rfl, rfl, Nat.le_of_ble_eq_true rfl, Nat.le_of_ble_eq_true rfl⟩ rfl (Nat.le_of_ble_eq_true rfl) ?_
      exact pwI hR dX9_of_21 hf
def rm_X9_one : Room := { frames := 1, cells := 0, slots := 0, locals := 22 }
def f_X9_one (E : Env1) (M : Mem) (v0 : Nat) (v1 : Int32) (v2 : Int32) : Option (Int32 × Mem) :=
  if (f_X9_in E M v1 (0 : Int32) (5 : Int32)) = 0 then (
    nm (f_X9_bad E M v0) fun x3 =>
    some (x3.1, x3.2))
  else (
    if (f_X9_in E M v2 (1 : Int32) (12 : Int32)) = 0 then (
      nm (f_X9_bad E M v0) fun x9 =>
      some (x9.1, x9.2))
    else (
      if (mi M v0 1) = (6 : Int32) then (
        nm (f_X9_full E M v0) fun x8 =>
        some (x8.1, x8.2))
      else (
        (f_X9_addOne E M v0 v1 v2).bind fun x7 =>
        some (x7.1, x7.2))))
set_option maxRecDepth 100000 in
set_option maxHeartbeats 4000000 in
theorem ok_X9_one {E : Env1} (hE : WF E) (l0 : Launch) {M : Mem} {M' : Mem} {v0 : Nat} {v1 : Int32} {v2 : Int32} {r : Int32} (h0 : isK E v0 8) (hf : f_X9_one E M v0 v1 v2 = some (r, M')) : Met l0 yX9_one (wsA yX9_one cX9_one 3 (some .int)) rm_X9_one (CP E M [.ref v0, .int v1, .int v2]) (CQi E r M') 0 0 (eA E) := by
  unfold f_X9_one at hf
  refine mtI l0 (by decide +kernel) (Nat.le_of_ble_eq_true rfl) (L0 := [some (.ref v0), some (.int v1), some (.int v2)]) rfl (fun X h hR => ?_)
  refine G_iload_n h dX9_one_0 (i := 1) rfl rfl rfl ?_
  refine G_iconst h dX9_one_1 ki_0 rfl ?_
  refine G_iconst h dX9_one_2 ki_5 rfl ?_
  refine cl_X9_91 h (ok_X9_in hE _  (r := f_X9_in E M v1 (0 : Int32) (5 : Int32)) rfl) dX9_one_3 (as := [.int v1, .int (0 : Int32), .int (5 : Int32)]) rfl rfl ⟨rfl, rfl, Nat.le_of_ble_eq_true rfl, Nat.le_of_ble_eq_true rfl⟩ rfl (Nat.le_of_ble_eq_true rfl) (fun z1 => ?_)
  refine G_if_eq h dX9_one_6 (tgt := 19) (by decide) rfl (fun c2 => ?_) (fun c2 => ?_)
  · have hf := it_t c2 hf
    refine G_aload_n h dX9_one_19 (i := 0) rfl rfl rfl ?_
    obtain ⟨x3, hx3⟩ : ∃ x, x = f_X9_bad E M v0 := ⟨_, rfl⟩
    have hf := nm_eq hx3 hf
    refine cl_X9_95 h (ok_X9_bad hE _ h0 hx3.symm) dX9_one_20 h0 (as := []) rfl rfl ⟨rfl, rfl, Nat.le_of_ble_eq_true rfl, Nat.le_of_ble_eq_true rfl⟩ rfl (Nat.le_of_ble_eq_true rfl) ?_
    exact pwI hR dX9_one_23 hf
  · have hf := it_f c2 hf
    refine G_iload_n h dX9_one_9 (i := 2) rfl rfl rfl ?_
    refine G_iconst h dX9_one_10 ki_1 rfl ?_
    refine G_bipush h dX9_one_11 kb_12 rfl ?_
    refine cl_X9_91 h (ok_X9_in hE _  (r := f_X9_in E M v2 (1 : Int32) (12 : Int32)) rfl) dX9_one_13 (as := [.int v2, .int (1 : Int32), .int (12 : Int32)]) rfl rfl ⟨rfl, rfl, Nat.le_of_ble_eq_true rfl, Nat.le_of_ble_eq_true rfl⟩ rfl (Nat.le_of_ble_eq_true rfl) (fun z4 => ?_)
    refine G_if_ne h dX9_one_16 (tgt := 24) (by decide) rfl (fun c5 => ?_) (fun c5 => ?_)
    · have hf := it_f c5 hf
      refine G_aload_n h dX9_one_24 (i := 0) rfl rfl rfl ?_
      refine gf_X9_69 h dX9_one_25 h0 rfl ?_
      refine G_bipush h dX9_one_28 kb_6 rfl ?_
      refine G_icmp_ne h dX9_one_30 (tgt := 40) (by decide) rfl (fun c6 => ?_) (fun c6 => ?_)
      · have hf := it_f c6 hf
        refine G_aload_n h dX9_one_40 (i := 0) rfl rfl rfl ?_
        refine G_iload_n h dX9_one_41 (i := 1) rfl rfl rfl ?_
        refine G_iload_n h dX9_one_42 (i := 2) rfl rfl rfl ?_
        obtain ⟨x7, hx7, hf⟩ := bd hf
        refine cl_X9_102 h (ok_X9_addOne hE _ h0 hx7) dX9_one_43 h0 (as := [.int v1, .int v2]) rfl rfl ⟨rfl, rfl, Nat.le_of_ble_eq_true rfl, Nat.le_of_ble_eq_true rfl⟩ rfl (Nat.le_of_ble_eq_true rfl) ?_
        exact pwI hR dX9_one_46 hf
      · have hf := it_t c6 hf
        refine G_aload_n h dX9_one_33 (i := 0) rfl rfl rfl ?_
        obtain ⟨x8, hx8⟩ : ∃ x, x = f_X9_full E M v0 := ⟨_, rfl⟩
        have hf := nm_eq hx8 hf
        refine cl_X9_99 h (ok_X9_full hE _ h0 hx8.symm) dX9_one_34 h0 (as := []) rfl rfl ⟨rfl, rfl, Nat.le_of_ble_eq_true rfl, Nat.le_of_ble_eq_true rfl⟩ rfl (Nat.le_of_ble_eq_true rfl) ?_
        refine G_goto h dX9_one_37 (tgt := 46) (by decide) ?_
        exact pwI hR dX9_one_46 hf
    · have hf := it_t c5 hf
      refine G_aload_n h dX9_one_19 (i := 0) rfl rfl rfl ?_
      obtain ⟨x9, hx9⟩ : ∃ x, x = f_X9_bad E M v0 := ⟨_, rfl⟩
      have hf := nm_eq hx9 hf
      refine cl_X9_95 h (ok_X9_bad hE _ h0 hx9.symm) dX9_one_20 h0 (as := []) rfl rfl ⟨rfl, rfl, Nat.le_of_ble_eq_true rfl, Nat.le_of_ble_eq_true rfl⟩ rfl (Nat.le_of_ble_eq_true rfl) ?_
      exact pwI hR dX9_one_23 hf
def rm_X9_part : Room := { frames := 1, cells := 0, slots := 0, locals := 20 }
def f_X9_part (E : Env1) (M : Mem) (v0 : Nat) (v1 : Int32) : Int64 × Mem :=
  if v1 = 0 then (ml M v0 25, M)
  else (
    if v1 = (1 : Int32) then (ml M v0 26, M)
    else (
      nm (f_X9_bad E M v0) fun x3 =>
      (x3.1.toInt64, x3.2)))
set_option maxRecDepth 100000 in
set_option maxHeartbeats 4000000 in
theorem ok_X9_part {E : Env1} (hE : WF E) (l0 : Launch) {M : Mem} {M' : Mem} {v0 : Nat} {v1 : Int32} {r : Int64} (h0 : isK E v0 8) (hf : f_X9_part E M v0 v1 = (r, M')) : Met l0 yX9_part (wsA yX9_part cX9_part 2 (some .long)) rm_X9_part (CP E M [.ref v0, .int v1]) (CQl E r M') 0 0 (eA E) := by
  unfold f_X9_part at hf
  refine mtL l0 (by decide +kernel) (Nat.le_of_ble_eq_true rfl) (L0 := [some (.ref v0), some (.int v1)]) rfl (fun X h hR => ?_)
  refine G_iload_n h dX9_part_0 (i := 1) rfl rfl rfl ?_
  refine G_if_ne h dX9_part_1 (tgt := 11) (by decide) rfl (fun c1 => ?_) (fun c1 => ?_)
  · have hf := it_f c1 hf
    refine G_iload_n h dX9_part_11 (i := 1) rfl rfl rfl ?_
    refine G_iconst h dX9_part_12 ki_1 rfl ?_
    refine G_icmp_ne h dX9_part_13 (tgt := 23) (by decide) rfl (fun c2 => ?_) (fun c2 => ?_)
    · have hf := it_f c2 hf
      refine G_aload_n h dX9_part_23 (i := 0) rfl rfl rfl ?_
      obtain ⟨x3, hx3⟩ : ∃ x, x = f_X9_bad E M v0 := ⟨_, rfl⟩
      have hf := nm_eq hx3 hf
      refine cl_X9_95 h (ok_X9_bad hE _ h0 hx3.symm) dX9_part_24 h0 (as := []) rfl rfl ⟨rfl, rfl, Nat.le_of_ble_eq_true rfl, Nat.le_of_ble_eq_true rfl⟩ rfl (Nat.le_of_ble_eq_true rfl) ?_
      refine G_i2l h dX9_part_27 rfl ?_
      exact twL hR dX9_part_28 hf
    · have hf := it_t c2 hf
      refine G_aload_n h dX9_part_16 (i := 0) rfl rfl rfl ?_
      refine gf_X9_56 h dX9_part_17 h0 rfl ?_
      refine G_goto h dX9_part_20 (tgt := 28) (by decide) ?_
      exact twL hR dX9_part_28 hf
  · have hf := it_t c1 hf
    refine G_aload_n h dX9_part_4 (i := 0) rfl rfl rfl ?_
    refine gf_X9_274 h dX9_part_5 h0 rfl ?_
    refine G_goto h dX9_part_8 (tgt := 28) (by decide) ?_
    exact twL hR dX9_part_28 hf
def rm_X9_setMay : Room := { frames := 1, cells := 0, slots := 0, locals := 22 }
def f_X9_setMay_L128 (E : Env1) (k35 : Mem → Nat → Int32 → (Option (Mem))) (k41 : Mem → Nat → Int32 → Int32 → (Option (Mem))) (M : Mem) (v0 : Nat) (v2 : Int32) (v3 : Int32) (v4 : Int32) : Option (Mem) :=
  gd (((4 : Int32) * v2) + (v3 / (64 : Int32))) 164 (if v4 = 0 then (
    nm (wl M (rr E v0 23) (ix (((4 : Int32) * v2) + (v3 / (64 : Int32)))) ((ml M (rr E v0 23) (ix (((4 : Int32) * v2) + (v3 / (64 : Int32))))) ||| (0 : Int64))) fun M3 =>
    k41 M3 v0 v2 (v3 + 1))
  else (
    nm (wl M (rr E v0 23) (ix (((4 : Int32) * v2) + (v3 / (64 : Int32)))) ((ml M (rr E v0 23) (ix (((4 : Int32) * v2) + (v3 / (64 : Int32))))) ||| ((1 : Int64) <<< ((v3 - v3 / (64 : Int32) * (64 : Int32)).toInt64 &&& 63)))) fun M4 =>
    k41 M4 v0 v2 (v3 + 1)))
set_option maxRecDepth 100000 in
set_option maxHeartbeats 4000000 in
theorem o_X9_setMay_L128 {X : Ctx} {l0 : Launch} {E : Env1} (h : Cx X l0 E RX9 cX9_setMay none 6 rm_X9_setMay) (hE : WF E) {M' : Mem} (hR : RetV X E cX9_setMay M') {k35 : Mem → Nat → Int32 → (Option (Mem))} (hk35 : ∀ (M : Mem) (v0 : Nat) (v2 : Int32), isK E v0 8 → k35 M v0 v2 = some (M') → G X E (0, 0) 35 [some (.ref v0), none, some (.int v2), none, none, none] [] M) {k41 : Mem → Nat → Int32 → Int32 → (Option (Mem))} (hk41 : ∀ (M : Mem) (v0 : Nat) (v2 : Int32) (v3 : Int32), isK E v0 8 → k41 M v0 v2 v3 = some (M') → G X E (0, 0) 41 [some (.ref v0), none, some (.int v2), some (.int v3), none, none] [] M) {M : Mem} {v0 : Nat} {v2 : Int32} {v3 : Int32} {v4 : Int32} (h_v0 : isK E v0 8) (z_v4 : v4 = 0 ∨ v4 = 1) (hf : f_X9_setMay_L128 E k35 k41 M v0 v2 v3 v4 = some (M')) : G X E (0, 0) 128 [some (.ref v0), none, some (.int v2), some (.int v3), some (.int v4), none] [] M := by
  unfold f_X9_setMay_L128 at hf
  refine G_aload_n h dX9_setMay_128 (i := 0) rfl rfl rfl ?_
  refine gf_X9_49 h hE dX9_setMay_129 h_v0 rfl ?_
  refine G_iconst h dX9_setMay_132 ki_4 rfl ?_
  refine G_iload_n h dX9_setMay_133 (i := 2) rfl rfl rfl ?_
  refine G_imul h dX9_setMay_134 rfl ?_
  refine G_iload_n h dX9_setMay_135 (i := 3) rfl rfl rfl ?_
  refine G_bipush h dX9_setMay_136 kb_64 rfl ?_
  refine G_idiv h dX9_setMay_138 (by decide) rfl ?_
  refine G_iadd h dX9_setMay_139 rfl ?_
  refine G_dup2 h dX9_setMay_140 rfl rfl rfl ?_
  obtain ⟨g1, hf⟩ := gd_some hf
  refine G_lald h dX9_setMay_141 ((w_8_23 hE h_v0).2) g1 (jx := (ix (((4 : Int32) * v2) + (v3 / (64 : Int32))))) rfl rfl ?_
  refine G_iload h dX9_setMay_142 rfl rfl ?_
  refine G_if_eq h dX9_setMay_144 (tgt := 156) (by decide) rfl (fun c2 => ?_) (fun c2 => ?_)
  · have hf := it_t c2 hf
    refine G_lconst h dX9_setMay_156 kl_0 rfl ?_
    refine G_lor h dX9_setMay_157 rfl ?_
    refine G_last h dX9_setMay_158 ((w_8_23 hE h_v0).2) g1 (jx := (ix (((4 : Int32) * v2) + (v3 / (64 : Int32))))) rfl rfl ?_
    refine G_nmM (fun M3 hM3 => ?_)
    have hf := nm_eq hM3 hf
    refine G_iinc2 h dX9_setMay_159 rfl ki_1 (by decide) (L' := [some (.ref v0), none, some (.int v2), some (.int (v3 + 1)), some (.int v4), none]) rfl rfl ?_
    refine G_goto h dX9_setMay_162 (tgt := 41) (by decide) ?_
    refine G_mskL [true, false, true, true, false, false] (L' := [some (.ref v0), none, some (.int v2), some (.int (v3 + 1)), none, none]) rfl ?_
    exact hk41 _ _ _ _ h_v0 hf
  · have hf := it_f c2 hf
    refine G_lconst h dX9_setMay_147 kl_1 rfl ?_
    refine G_iload_n h dX9_setMay_148 (i := 3) rfl rfl rfl ?_
    refine G_bipush h dX9_setMay_149 kb_64 rfl ?_
    refine G_irem h dX9_setMay_151 (by decide) rfl ?_
    refine G_lshl h dX9_setMay_152 rfl ?_
    refine G_goto h dX9_setMay_153 (tgt := 157) (by decide) ?_
    refine G_lor h dX9_setMay_157 rfl ?_
    refine G_last h dX9_setMay_158 ((w_8_23 hE h_v0).2) g1 (jx := (ix (((4 : Int32) * v2) + (v3 / (64 : Int32))))) rfl rfl ?_
    refine G_nmM (fun M4 hM4 => ?_)
    have hf := nm_eq hM4 hf
    refine G_iinc2 h dX9_setMay_159 rfl ki_1 (by decide) (L' := [some (.ref v0), none, some (.int v2), some (.int (v3 + 1)), some (.int v4), none]) rfl rfl ?_
    refine G_goto h dX9_setMay_162 (tgt := 41) (by decide) ?_
    refine G_mskL [true, false, true, true, false, false] (L' := [some (.ref v0), none, some (.int v2), some (.int (v3 + 1)), none, none]) rfl ?_
    exact hk41 _ _ _ _ h_v0 hf
def b_X9_setMay_L61 (E : Env1) (k35 : Mem → Nat → Int32 → (Option (Mem))) (k41 : Mem → Nat → Int32 → Int32 → (Option (Mem))) (k61 : Mem → Nat → Int32 → Int32 → Int32 → Int32 → (Option (Mem))) (M : Mem) (v0 : Nat) (v2 : Int32) (v3 : Int32) (v4 : Int32) (v5 : Int32) : Option (Mem) :=
  if (8 : Int32) ≤ v5 then (f_X9_setMay_L128 E k35 k41 M v0 v2 v3 v4)
  else (
    if v4 = 0 then (
      gd (((mi M v0 2) + v2) - ((mi M v0 2) + v2) / (24 : Int32) * (24 : Int32)) 24 (if (f_X9_has E M (v3 &&& (mi M (rr E v0 24) (ix (((mi M v0 2) + v2) - ((mi M v0 2) + v2) / (24 : Int32) * (24 : Int32))))) v5) = 0 then (k61 M v0 v2 v3 (0 : Int32) (v5 + 1))
      else (
        (f_X9_isMay E M v0 (v2 + (1 : Int32)) (v3 &&& (((1 : Int32) <<< (v5 &&& 31)) ^^^ (-1 : Int32)))).bind fun x7 =>
        if x7 = 0 then (k61 M v0 v2 v3 (0 : Int32) (v5 + 1))
        else (k61 M v0 v2 v3 (1 : Int32) (v5 + 1)))))
    else (f_X9_setMay_L128 E k35 k41 M v0 v2 v3 v4))
set_option maxRecDepth 100000 in
set_option maxHeartbeats 4000000 in
theorem ob_X9_setMay_L61 {X : Ctx} {l0 : Launch} {E : Env1} (h : Cx X l0 E RX9 cX9_setMay none 6 rm_X9_setMay) (hE : WF E) {M' : Mem} (hR : RetV X E cX9_setMay M') {k35 : Mem → Nat → Int32 → (Option (Mem))} (hk35 : ∀ (M : Mem) (v0 : Nat) (v2 : Int32), isK E v0 8 → k35 M v0 v2 = some (M') → G X E (0, 0) 35 [some (.ref v0), none, some (.int v2), none, none, none] [] M) {k41 : Mem → Nat → Int32 → Int32 → (Option (Mem))} (hk41 : ∀ (M : Mem) (v0 : Nat) (v2 : Int32) (v3 : Int32), isK E v0 8 → k41 M v0 v2 v3 = some (M') → G X E (0, 0) 41 [some (.ref v0), none, some (.int v2), some (.int v3), none, none] [] M) {k61 : Mem → Nat → Int32 → Int32 → Int32 → Int32 → (Option (Mem))} (hk61 : ∀ (M : Mem) (v0 : Nat) (v2 : Int32) (v3 : Int32) (v4 : Int32) (v5 : Int32), isK E v0 8 → (v4 = 0 ∨ v4 = 1) → k61 M v0 v2 v3 v4 v5 = some (M') → G X E (0, 0) 61 [some (.ref v0), none, some (.int v2), some (.int v3), some (.int v4), some (.int v5)] [] M) {M : Mem} {v0 : Nat} {v2 : Int32} {v3 : Int32} {v4 : Int32} {v5 : Int32} (h_v0 : isK E v0 8) (z_v4 : v4 = 0 ∨ v4 = 1) (hf : b_X9_setMay_L61 E k35 k41 k61 M v0 v2 v3 v4 v5 = some (M')) : G X E (0, 0) 61 [some (.ref v0), none, some (.int v2), some (.int v3), some (.int v4), some (.int v5)] [] M := by
  unfold b_X9_setMay_L61 at hf
  refine G_iload h dX9_setMay_61 rfl rfl ?_
  refine G_bipush h dX9_setMay_63 kb_8 rfl ?_
  refine G_icmp_ge h dX9_setMay_65 (tgt := 128) (by decide) rfl (fun c1 => ?_) (fun c1 => ?_)
  · have hf := it_t c1 hf
    refine G_mskL [true, false, true, true, true, false] (L' := [some (.ref v0), none, some (.int v2), some (.int v3), some (.int v4), none]) rfl ?_
    exact o_X9_setMay_L128 h hE hR hk35 hk41 h_v0 z_v4 hf
  · have hf := it_f c1 hf
    refine G_iload h dX9_setMay_68 rfl rfl ?_
    refine G_if_ne h dX9_setMay_70 (tgt := 128) (by decide) rfl (fun c2 => ?_) (fun c2 => ?_)
    · have hf := it_f c2 hf
      refine G_mskL [true, false, true, true, true, false] (L' := [some (.ref v0), none, some (.int v2), some (.int v3), some (.int v4), none]) rfl ?_
      exact o_X9_setMay_L128 h hE hR hk35 hk41 h_v0 z_v4 hf
    · have hf := it_t c2 hf
      refine G_iload_n h dX9_setMay_73 (i := 3) rfl rfl rfl ?_
      refine G_aload_n h dX9_setMay_74 (i := 0) rfl rfl rfl ?_
      refine gf_X9_53 h hE dX9_setMay_75 h_v0 rfl ?_
      refine G_aload_n h dX9_setMay_78 (i := 0) rfl rfl rfl ?_
      refine gf_X9_73 h dX9_setMay_79 h_v0 rfl ?_
      refine G_iload_n h dX9_setMay_82 (i := 2) rfl rfl rfl ?_
      refine G_iadd h dX9_setMay_83 rfl ?_
      refine G_bipush h dX9_setMay_84 kb_24 rfl ?_
      refine G_irem h dX9_setMay_86 (by decide) rfl ?_
      obtain ⟨g3, hf⟩ := gd_some hf
      refine G_iald h dX9_setMay_87 ((w_8_24 hE h_v0).2) g3 (jx := (ix (((mi M v0 2) + v2) - ((mi M v0 2) + v2) / (24 : Int32) * (24 : Int32)))) rfl rfl ?_
      refine G_iand h dX9_setMay_88 rfl ?_
      refine G_iload h dX9_setMay_89 rfl rfl ?_
      refine cl_X9_189 h (ok_X9_has hE _  (r := f_X9_has E M (v3 &&& (mi M (rr E v0 24) (ix (((mi M v0 2) + v2) - ((mi M v0 2) + v2) / (24 : Int32) * (24 : Int32))))) v5) rfl) dX9_setMay_91 (as := [.int (v3 &&& (mi M (rr E v0 24) (ix (((mi M v0 2) + v2) - ((mi M v0 2) + v2) / (24 : Int32) * (24 : Int32))))), .int v5]) rfl rfl ⟨rfl, rfl, Nat.le_of_ble_eq_true rfl, Nat.le_of_ble_eq_true rfl⟩ rfl (Nat.le_of_ble_eq_true rfl) (fun z4 => ?_)
      refine G_if_eq h dX9_setMay_94 (tgt := 119) (by decide) rfl (fun c5 => ?_) (fun c5 => ?_)
      · have hf := it_t c5 hf
        refine G_iconst h dX9_setMay_119 ki_0 rfl ?_
        refine G_istore h dX9_setMay_120  (by decide) (L' := [some (.ref v0), none, some (.int v2), some (.int v3), some (.int (0 : Int32)), some (.int v5)]) rfl rfl ?_
        refine G_iinc2 h dX9_setMay_122 rfl ki_1 (by decide) (L' := [some (.ref v0), none, some (.int v2), some (.int v3), some (.int (0 : Int32)), some (.int (v5 + 1))]) rfl rfl ?_
        refine G_goto h dX9_setMay_125 (tgt := 61) (by decide) ?_
        exact hk61 _ _ _ _ _ _ h_v0 (Or.inl rfl) hf
      · have hf := it_f c5 hf
        refine G_aload_n h dX9_setMay_97 (i := 0) rfl rfl rfl ?_
        refine G_iload_n h dX9_setMay_98 (i := 2) rfl rfl rfl ?_
        refine G_iconst h dX9_setMay_99 ki_1 rfl ?_
        refine G_iadd h dX9_setMay_100 rfl ?_
        refine G_iload_n h dX9_setMay_101 (i := 3) rfl rfl rfl ?_
        refine G_iconst h dX9_setMay_102 ki_1 rfl ?_
        refine G_iload h dX9_setMay_103 rfl rfl ?_
        refine G_ishl h dX9_setMay_105 rfl ?_
        refine G_iconst h dX9_setMay_106 ki_m1 rfl ?_
        refine G_ixor h dX9_setMay_107 rfl ?_
        refine G_iand h dX9_setMay_108 rfl ?_
        obtain ⟨x7, hx7, hf⟩ := bd hf
        refine cl_X9_244 h (ok_X9_isMay hE _ h_v0 hx7) dX9_setMay_109 h_v0 (as := [.int (v2 + (1 : Int32)), .int (v3 &&& (((1 : Int32) <<< (v5 &&& 31)) ^^^ (-1 : Int32)))]) rfl rfl ⟨rfl, rfl, Nat.le_of_ble_eq_true rfl, Nat.le_of_ble_eq_true rfl⟩ rfl (Nat.le_of_ble_eq_true rfl) (fun z6 => ?_)
        refine G_if_eq h dX9_setMay_112 (tgt := 119) (by decide) rfl (fun c8 => ?_) (fun c8 => ?_)
        · have hf := it_t c8 hf
          refine G_iconst h dX9_setMay_119 ki_0 rfl ?_
          refine G_istore h dX9_setMay_120  (by decide) (L' := [some (.ref v0), none, some (.int v2), some (.int v3), some (.int (0 : Int32)), some (.int v5)]) rfl rfl ?_
          refine G_iinc2 h dX9_setMay_122 rfl ki_1 (by decide) (L' := [some (.ref v0), none, some (.int v2), some (.int v3), some (.int (0 : Int32)), some (.int (v5 + 1))]) rfl rfl ?_
          refine G_goto h dX9_setMay_125 (tgt := 61) (by decide) ?_
          exact hk61 _ _ _ _ _ _ h_v0 (Or.inl rfl) hf
        · have hf := it_f c8 hf
          refine G_iconst h dX9_setMay_115 ki_1 rfl ?_
          refine G_goto h dX9_setMay_116 (tgt := 120) (by decide) ?_
          refine G_istore h dX9_setMay_120  (by decide) (L' := [some (.ref v0), none, some (.int v2), some (.int v3), some (.int (1 : Int32)), some (.int v5)]) rfl rfl ?_
          refine G_iinc2 h dX9_setMay_122 rfl ki_1 (by decide) (L' := [some (.ref v0), none, some (.int v2), some (.int v3), some (.int (1 : Int32)), some (.int (v5 + 1))]) rfl rfl ?_
          refine G_goto h dX9_setMay_125 (tgt := 61) (by decide) ?_
          exact hk61 _ _ _ _ _ _ h_v0 (Or.inr rfl) hf
def f_X9_setMay_L61 (E : Env1) (k35 : Mem → Nat → Int32 → (Option (Mem))) (k41 : Mem → Nat → Int32 → Int32 → (Option (Mem))) : Nat → Mem → Nat → Int32 → Int32 → Int32 → Int32 → (Option (Mem))
  | 0 => fun _ _ _ _ _ _ => none
  | n + 1 => b_X9_setMay_L61 E k35 k41 (f_X9_setMay_L61 E k35 k41 n)
theorem o_X9_setMay_L61 {X : Ctx} {l0 : Launch} {E : Env1} (h : Cx X l0 E RX9 cX9_setMay none 6 rm_X9_setMay) (hE : WF E) {M' : Mem} (hR : RetV X E cX9_setMay M') {k35 : Mem → Nat → Int32 → (Option (Mem))} (hk35 : ∀ (M : Mem) (v0 : Nat) (v2 : Int32), isK E v0 8 → k35 M v0 v2 = some (M') → G X E (0, 0) 35 [some (.ref v0), none, some (.int v2), none, none, none] [] M) {k41 : Mem → Nat → Int32 → Int32 → (Option (Mem))} (hk41 : ∀ (M : Mem) (v0 : Nat) (v2 : Int32) (v3 : Int32), isK E v0 8 → k41 M v0 v2 v3 = some (M') → G X E (0, 0) 41 [some (.ref v0), none, some (.int v2), some (.int v3), none, none] [] M) : ∀ (n : Nat) (M : Mem) (v0 : Nat) (v2 : Int32) (v3 : Int32) (v4 : Int32) (v5 : Int32), isK E v0 8 → (v4 = 0 ∨ v4 = 1) → f_X9_setMay_L61 E k35 k41 n M v0 v2 v3 v4 v5 = some (M') → G X E (0, 0) 61 [some (.ref v0), none, some (.int v2), some (.int v3), some (.int v4), some (.int v5)] [] M := by
  intro n
  induction n with
  | zero =>
    intro _ _ _ _ _ _ a0 a1 hf
    have h0 : (none : Option (Mem)) = some (M') := hf
    cases h0
  | succ n ih =>
    intro _ _ _ _ _ _ a0 a1 hf
    exact ob_X9_setMay_L61 h hE hR hk35 hk41 ih a0 a1 hf
def b_X9_setMay_L41 (E : Env1) (k35 : Mem → Nat → Int32 → (Option (Mem))) (k41 : Mem → Nat → Int32 → Int32 → (Option (Mem))) (M : Mem) (v0 : Nat) (v2 : Int32) (v3 : Int32) : Option (Mem) :=
  if (256 : Int32) ≤ v3 then (k35 M v0 (v2 + (-1)))
  else (
    (f_X9_isMay E M v0 (v2 + (1 : Int32)) v3).bind fun x3 =>
    f_X9_setMay_L61 E k35 k41 FU M v0 v2 v3 x3 (0 : Int32))
set_option maxRecDepth 100000 in
set_option maxHeartbeats 4000000 in
theorem ob_X9_setMay_L41 {X : Ctx} {l0 : Launch} {E : Env1} (h : Cx X l0 E RX9 cX9_setMay none 6 rm_X9_setMay) (hE : WF E) {M' : Mem} (hR : RetV X E cX9_setMay M') {k35 : Mem → Nat → Int32 → (Option (Mem))} (hk35 : ∀ (M : Mem) (v0 : Nat) (v2 : Int32), isK E v0 8 → k35 M v0 v2 = some (M') → G X E (0, 0) 35 [some (.ref v0), none, some (.int v2), none, none, none] [] M) {k41 : Mem → Nat → Int32 → Int32 → (Option (Mem))} (hk41 : ∀ (M : Mem) (v0 : Nat) (v2 : Int32) (v3 : Int32), isK E v0 8 → k41 M v0 v2 v3 = some (M') → G X E (0, 0) 41 [some (.ref v0), none, some (.int v2), some (.int v3), none, none] [] M) {M : Mem} {v0 : Nat} {v2 : Int32} {v3 : Int32} (h_v0 : isK E v0 8) (hf : b_X9_setMay_L41 E k35 k41 M v0 v2 v3 = some (M')) : G X E (0, 0) 41 [some (.ref v0), none, some (.int v2), some (.int v3), none, none] [] M := by
  unfold b_X9_setMay_L41 at hf
  refine G_iload_n h dX9_setMay_41 (i := 3) rfl rfl rfl ?_
  refine G_sipush h dX9_setMay_42 ks_256 rfl ?_
  refine G_icmp_ge h dX9_setMay_45 (tgt := 165) (by decide) rfl (fun c1 => ?_) (fun c1 => ?_)
  · have hf := it_t c1 hf
    refine G_iinc2 h dX9_setMay_165 rfl ki_m1 (by decide) (L' := [some (.ref v0), none, some (.int (v2 + (-1))), some (.int v3), none, none]) rfl rfl ?_
    refine G_goto h dX9_setMay_168 (tgt := 35) (by decide) ?_
    refine G_mskL [true, false, true, false, false, false] (L' := [some (.ref v0), none, some (.int (v2 + (-1))), none, none, none]) rfl ?_
    exact hk35 _ _ _ h_v0 hf
  · have hf := it_f c1 hf
    refine G_aload_n h dX9_setMay_48 (i := 0) rfl rfl rfl ?_
    refine G_iload_n h dX9_setMay_49 (i := 2) rfl rfl rfl ?_
    refine G_iconst h dX9_setMay_50 ki_1 rfl ?_
    refine G_iadd h dX9_setMay_51 rfl ?_
    refine G_iload_n h dX9_setMay_52 (i := 3) rfl rfl rfl ?_
    obtain ⟨x3, hx3, hf⟩ := bd hf
    refine cl_X9_244 h (ok_X9_isMay hE _ h_v0 hx3) dX9_setMay_53 h_v0 (as := [.int (v2 + (1 : Int32)), .int v3]) rfl rfl ⟨rfl, rfl, Nat.le_of_ble_eq_true rfl, Nat.le_of_ble_eq_true rfl⟩ rfl (Nat.le_of_ble_eq_true rfl) (fun z2 => ?_)
    refine G_istore h dX9_setMay_56  (by decide) (L' := [some (.ref v0), none, some (.int v2), some (.int v3), some (.int x3), none]) rfl rfl ?_
    refine G_iconst h dX9_setMay_58 ki_0 rfl ?_
    refine G_istore h dX9_setMay_59  (by decide) (L' := [some (.ref v0), none, some (.int v2), some (.int v3), some (.int x3), some (.int (0 : Int32))]) rfl rfl ?_
    exact o_X9_setMay_L61 h hE hR hk35 hk41 FU _ _ _ _ _ _ h_v0 z2 hf
def f_X9_setMay_L41 (E : Env1) (k35 : Mem → Nat → Int32 → (Option (Mem))) : Nat → Mem → Nat → Int32 → Int32 → (Option (Mem))
  | 0 => fun _ _ _ _ => none
  | n + 1 => b_X9_setMay_L41 E k35 (f_X9_setMay_L41 E k35 n)
theorem o_X9_setMay_L41 {X : Ctx} {l0 : Launch} {E : Env1} (h : Cx X l0 E RX9 cX9_setMay none 6 rm_X9_setMay) (hE : WF E) {M' : Mem} (hR : RetV X E cX9_setMay M') {k35 : Mem → Nat → Int32 → (Option (Mem))} (hk35 : ∀ (M : Mem) (v0 : Nat) (v2 : Int32), isK E v0 8 → k35 M v0 v2 = some (M') → G X E (0, 0) 35 [some (.ref v0), none, some (.int v2), none, none, none] [] M) : ∀ (n : Nat) (M : Mem) (v0 : Nat) (v2 : Int32) (v3 : Int32), isK E v0 8 → f_X9_setMay_L41 E k35 n M v0 v2 v3 = some (M') → G X E (0, 0) 41 [some (.ref v0), none, some (.int v2), some (.int v3), none, none] [] M := by
  intro n
  induction n with
  | zero =>
    intro _ _ _ _ a0 hf
    have h0 : (none : Option (Mem)) = some (M') := hf
    cases h0
  | succ n ih =>
    intro _ _ _ _ a0 hf
    exact ob_X9_setMay_L41 h hE hR hk35 ih a0 hf
def b_X9_setMay_L35 (E : Env1) (k35 : Mem → Nat → Int32 → (Option (Mem))) (M : Mem) (v0 : Nat) (v2 : Int32) : Option (Mem) :=
  if v2 < 0 then (some M)
  else (f_X9_setMay_L41 E k35 FU M v0 v2 (0 : Int32))
set_option maxRecDepth 100000 in
set_option maxHeartbeats 4000000 in
theorem ob_X9_setMay_L35 {X : Ctx} {l0 : Launch} {E : Env1} (h : Cx X l0 E RX9 cX9_setMay none 6 rm_X9_setMay) (hE : WF E) {M' : Mem} (hR : RetV X E cX9_setMay M') {k35 : Mem → Nat → Int32 → (Option (Mem))} (hk35 : ∀ (M : Mem) (v0 : Nat) (v2 : Int32), isK E v0 8 → k35 M v0 v2 = some (M') → G X E (0, 0) 35 [some (.ref v0), none, some (.int v2), none, none, none] [] M) {M : Mem} {v0 : Nat} {v2 : Int32} (h_v0 : isK E v0 8) (hf : b_X9_setMay_L35 E k35 M v0 v2 = some (M')) : G X E (0, 0) 35 [some (.ref v0), none, some (.int v2), none, none, none] [] M := by
  unfold b_X9_setMay_L35 at hf
  refine G_iload_n h dX9_setMay_35 (i := 2) rfl rfl rfl ?_
  refine G_if_lt h dX9_setMay_36 (tgt := 171) (by decide) rfl (fun c1 => ?_) (fun c1 => ?_)
  · have hf := it_t c1 hf
    exact pwV hR dX9_setMay_171 hf
  · have hf := it_f c1 hf
    refine G_iconst h dX9_setMay_39 ki_0 rfl ?_
    refine G_istore_n h dX9_setMay_40 (i := 3) rfl (by decide) (L' := [some (.ref v0), none, some (.int v2), some (.int (0 : Int32)), none, none]) rfl rfl ?_
    exact o_X9_setMay_L41 h hE hR hk35 FU _ _ _ _ h_v0 hf
def f_X9_setMay_L35 (E : Env1) : Nat → Mem → Nat → Int32 → (Option (Mem))
  | 0 => fun _ _ _ => none
  | n + 1 => b_X9_setMay_L35 E (f_X9_setMay_L35 E n)
theorem o_X9_setMay_L35 {X : Ctx} {l0 : Launch} {E : Env1} (h : Cx X l0 E RX9 cX9_setMay none 6 rm_X9_setMay) (hE : WF E) {M' : Mem} (hR : RetV X E cX9_setMay M') : ∀ (n : Nat) (M : Mem) (v0 : Nat) (v2 : Int32), isK E v0 8 → f_X9_setMay_L35 E n M v0 v2 = some (M') → G X E (0, 0) 35 [some (.ref v0), none, some (.int v2), none, none, none] [] M := by
  intro n
  induction n with
  | zero =>
    intro _ _ _ a0 hf
    have h0 : (none : Option (Mem)) = some (M') := hf
    cases h0
  | succ n ih =>
    intro _ _ _ a0 hf
    exact ob_X9_setMay_L35 h hE hR  ih a0 hf
def b_X9_setMay_L2 (E : Env1) (k2 : Mem → Nat → Int32 → Int32 → (Option (Mem))) (M : Mem) (v0 : Nat) (v1 : Int32) (v2 : Int32) : Option (Mem) :=
  if (164 : Int32) ≤ v2 then (gd ((4 : Int32) * v1) 164 (f_X9_setMay_L35 E FU (wl M (rr E v0 23) (ix ((4 : Int32) * v1)) (1 : Int64)) v0 (v1 - (1 : Int32))))
  else (gd v2 164 (k2 (wl M (rr E v0 23) (ix v2) (0 : Int64)) v0 v1 (v2 + 1)))
set_option maxRecDepth 100000 in
set_option maxHeartbeats 4000000 in
theorem ob_X9_setMay_L2 {X : Ctx} {l0 : Launch} {E : Env1} (h : Cx X l0 E RX9 cX9_setMay none 6 rm_X9_setMay) (hE : WF E) {M' : Mem} (hR : RetV X E cX9_setMay M') {k2 : Mem → Nat → Int32 → Int32 → (Option (Mem))} (hk2 : ∀ (M : Mem) (v0 : Nat) (v1 : Int32) (v2 : Int32), isK E v0 8 → k2 M v0 v1 v2 = some (M') → G X E (0, 0) 2 [some (.ref v0), some (.int v1), some (.int v2), none, none, none] [] M) {M : Mem} {v0 : Nat} {v1 : Int32} {v2 : Int32} (h_v0 : isK E v0 8) (hf : b_X9_setMay_L2 E k2 M v0 v1 v2 = some (M')) : G X E (0, 0) 2 [some (.ref v0), some (.int v1), some (.int v2), none, none, none] [] M := by
  unfold b_X9_setMay_L2 at hf
  refine G_iload_n h dX9_setMay_2 (i := 2) rfl rfl rfl ?_
  refine G_sipush h dX9_setMay_3 ks_164 rfl ?_
  refine G_icmp_ge h dX9_setMay_6 (tgt := 22) (by decide) rfl (fun c1 => ?_) (fun c1 => ?_)
  · have hf := it_t c1 hf
    refine G_aload_n h dX9_setMay_22 (i := 0) rfl rfl rfl ?_
    refine gf_X9_49 h hE dX9_setMay_23 h_v0 rfl ?_
    refine G_iconst h dX9_setMay_26 ki_4 rfl ?_
    refine G_iload_n h dX9_setMay_27 (i := 1) rfl rfl rfl ?_
    refine G_imul h dX9_setMay_28 rfl ?_
    refine G_lconst h dX9_setMay_29 kl_1 rfl ?_
    obtain ⟨g2, hf⟩ := gd_some hf
    refine G_last h dX9_setMay_30 ((w_8_23 hE h_v0).2) g2 (jx := (ix ((4 : Int32) * v1))) rfl rfl ?_
    refine G_iload_n h dX9_setMay_31 (i := 1) rfl rfl rfl ?_
    refine G_iconst h dX9_setMay_32 ki_1 rfl ?_
    refine G_isub h dX9_setMay_33 rfl ?_
    refine G_istore_n h dX9_setMay_34 (i := 2) rfl (by decide) (L' := [some (.ref v0), some (.int v1), some (.int (v1 - (1 : Int32))), none, none, none]) rfl rfl ?_
    refine G_mskL [true, false, true, false, false, false] (L' := [some (.ref v0), none, some (.int (v1 - (1 : Int32))), none, none, none]) rfl ?_
    exact o_X9_setMay_L35 h hE hR  FU _ _ _ h_v0 hf
  · have hf := it_f c1 hf
    refine G_aload_n h dX9_setMay_9 (i := 0) rfl rfl rfl ?_
    refine gf_X9_49 h hE dX9_setMay_10 h_v0 rfl ?_
    refine G_iload_n h dX9_setMay_13 (i := 2) rfl rfl rfl ?_
    refine G_lconst h dX9_setMay_14 kl_0 rfl ?_
    obtain ⟨g3, hf⟩ := gd_some hf
    refine G_last h dX9_setMay_15 ((w_8_23 hE h_v0).2) g3 (jx := (ix v2)) rfl rfl ?_
    refine G_iinc2 h dX9_setMay_16 rfl ki_1 (by decide) (L' := [some (.ref v0), some (.int v1), some (.int (v2 + 1)), none, none, none]) rfl rfl ?_
    refine G_goto h dX9_setMay_19 (tgt := 2) (by decide) ?_
    exact hk2 _ _ _ _ h_v0 hf
def f_X9_setMay_L2 (E : Env1) : Nat → Mem → Nat → Int32 → Int32 → (Option (Mem))
  | 0 => fun _ _ _ _ => none
  | n + 1 => b_X9_setMay_L2 E (f_X9_setMay_L2 E n)
theorem o_X9_setMay_L2 {X : Ctx} {l0 : Launch} {E : Env1} (h : Cx X l0 E RX9 cX9_setMay none 6 rm_X9_setMay) (hE : WF E) {M' : Mem} (hR : RetV X E cX9_setMay M') : ∀ (n : Nat) (M : Mem) (v0 : Nat) (v1 : Int32) (v2 : Int32), isK E v0 8 → f_X9_setMay_L2 E n M v0 v1 v2 = some (M') → G X E (0, 0) 2 [some (.ref v0), some (.int v1), some (.int v2), none, none, none] [] M := by
  intro n
  induction n with
  | zero =>
    intro _ _ _ _ a0 hf
    have h0 : (none : Option (Mem)) = some (M') := hf
    cases h0
  | succ n ih =>
    intro _ _ _ _ a0 hf
    exact ob_X9_setMay_L2 h hE hR  ih a0 hf
def f_X9_setMay (E : Env1) (M : Mem) (v0 : Nat) (v1 : Int32) : Option (Mem) :=
  f_X9_setMay_L2 E FU M v0 v1 (0 : Int32)
set_option maxRecDepth 100000 in
set_option maxHeartbeats 4000000 in
theorem ok_X9_setMay {E : Env1} (hE : WF E) (l0 : Launch) {M : Mem} {M' : Mem} {v0 : Nat} {v1 : Int32} (h0 : isK E v0 8) (hf : f_X9_setMay E M v0 v1 = some (M')) : Met l0 yX9_setMay (wsA yX9_setMay cX9_setMay 6 none) rm_X9_setMay (CP E M [.ref v0, .int v1]) (CQv E M') 0 0 (eA E) := by
  unfold f_X9_setMay at hf
  refine mtV l0 (by decide +kernel) (Nat.le_of_ble_eq_true rfl) (L0 := [some (.ref v0), some (.int v1), none, none, none, none]) rfl (fun X h hR => ?_)
  refine G_iconst h dX9_setMay_0 ki_0 rfl ?_
  refine G_istore_n h dX9_setMay_1 (i := 2) rfl (by decide) (L' := [some (.ref v0), some (.int v1), some (.int (0 : Int32)), none, none, none]) rfl rfl ?_
  exact o_X9_setMay_L2 h hE hR  FU _ _ _ _ h0 hf
def rm_X9_plan : Room := { frames := 4, cells := 0, slots := 0, locals := 92 }
def f_X9_plan_L223 (E : Env1) (M : Mem) (v3 : Int32) (v5 : Int32) : Option (Int32 × Mem) :=
  some (if 0 ≤ v3 then (-5 : Int32) else v5, M)
set_option maxRecDepth 100000 in
set_option maxHeartbeats 4000000 in
theorem o_X9_plan_L223 {X : Ctx} {l0 : Launch} {E : Env1} (h : Cx X l0 E RX9 cX9_plan (some .int) 8 rm_X9_plan) (hE : WF E) {M' : Mem} {r : Int32} (hR : RetI X E cX9_plan r M') {M : Mem} {v3 : Int32} {v5 : Int32}  (hf : f_X9_plan_L223 E M v3 v5 = some (r, M')) : G X E (0, 0) 223 [none, none, none, some (.int v3), none, some (.int v5), none, none] [] M := by
  unfold f_X9_plan_L223 at hf
  refine G_iload_n h dX9_plan_223 (i := 3) rfl rfl rfl ?_
  have hJ : G X E (0, 0) 234 [none, none, none, some (.int v3), none, some (.int v5), none, none] [.int (if 0 ≤ v3 then (-5 : Int32) else v5)] M := by
    exact pwI hR dX9_plan_234 hf
  refine G_if_ge h dX9_plan_224 (tgt := 232) (by decide) rfl (fun c1 => ?_) (fun c1 => ?_)
  · refine G_bipush h dX9_plan_232 kb_m5 rfl ?_
    exact G_ifp c1 hJ
  · refine G_iload h dX9_plan_227 rfl rfl ?_
    refine G_goto h dX9_plan_229 (tgt := 234) (by decide) ?_
    exact G_ifn c1 hJ
def b_X9_plan_L241 (E : Env1) (k241 : Mem → Nat → Int32 → Int32 → Int32 → Int32 → (Option (Int32 × Mem))) (M : Mem) (v0 : Nat) (v3 : Int32) (v4 : Int32) (v6 : Int32) (v7 : Int32) : Option (Int32 × Mem) :=
  if v3 < v7 then (some (v6, M))
  else (
    (f_X9_does E M v0 v7 v4).bind fun x2 =>
    nm (v4 &&& (if x2 = (-1 : Int32) then (-1 : Int32) else ((1 : Int32) <<< (x2 &&& 31)) ^^^ (-1 : Int32))) fun x4 =>
    k241 M v0 v3 x4 x2 (v7 + 1))
set_option maxRecDepth 100000 in
set_option maxHeartbeats 4000000 in
theorem ob_X9_plan_L241 {X : Ctx} {l0 : Launch} {E : Env1} (h : Cx X l0 E RX9 cX9_plan (some .int) 8 rm_X9_plan) (hE : WF E) {M' : Mem} {r : Int32} (hR : RetI X E cX9_plan r M') {k241 : Mem → Nat → Int32 → Int32 → Int32 → Int32 → (Option (Int32 × Mem))} (hk241 : ∀ (M : Mem) (v0 : Nat) (v3 : Int32) (v4 : Int32) (v6 : Int32) (v7 : Int32), isK E v0 8 → k241 M v0 v3 v4 v6 v7 = some (r, M') → G X E (0, 0) 241 [some (.ref v0), none, none, some (.int v3), some (.int v4), none, some (.int v6), some (.int v7)] [] M) {M : Mem} {v0 : Nat} {v3 : Int32} {v4 : Int32} {v6 : Int32} {v7 : Int32} (h_v0 : isK E v0 8) (hf : b_X9_plan_L241 E k241 M v0 v3 v4 v6 v7 = some (r, M')) : G X E (0, 0) 241 [some (.ref v0), none, none, some (.int v3), some (.int v4), none, some (.int v6), some (.int v7)] [] M := by
  unfold b_X9_plan_L241 at hf
  refine G_iload h dX9_plan_241 rfl rfl ?_
  refine G_iload_n h dX9_plan_243 (i := 3) rfl rfl rfl ?_
  refine G_icmp_gt h dX9_plan_244 (tgt := 284) (by decide) rfl (fun c1 => ?_) (fun c1 => ?_)
  · have hf := it_t c1 hf
    refine G_iload h dX9_plan_284 rfl rfl ?_
    exact pwI hR dX9_plan_286 hf
  · have hf := it_f c1 hf
    refine G_aload_n h dX9_plan_247 (i := 0) rfl rfl rfl ?_
    refine G_iload h dX9_plan_248 rfl rfl ?_
    refine G_iload h dX9_plan_250 rfl rfl ?_
    obtain ⟨x2, hx2, hf⟩ := bd hf
    refine cl_X9_250 h (ok_X9_does hE _ h_v0 hx2) dX9_plan_252 h_v0 (as := [.int v7, .int v4]) rfl rfl ⟨rfl, rfl, Nat.le_of_ble_eq_true rfl, Nat.le_of_ble_eq_true rfl⟩ rfl (Nat.le_of_ble_eq_true rfl) ?_
    refine G_istore h dX9_plan_255  (by decide) (L' := [some (.ref v0), none, none, some (.int v3), some (.int v4), none, some (.int x2), some (.int v7)]) rfl rfl ?_
    refine G_iload h dX9_plan_257 rfl rfl ?_
    refine G_iload h dX9_plan_259 rfl rfl ?_
    refine G_iconst h dX9_plan_261 ki_m1 rfl ?_
    have hJ : G X E (0, 0) 275 [some (.ref v0), none, none, some (.int v3), some (.int v4), none, some (.int x2), some (.int v7)] [.int (if x2 = (-1 : Int32) then (-1 : Int32) else ((1 : Int32) <<< (x2 &&& 31)) ^^^ (-1 : Int32)), .int v4] M := by
      refine G_iand h dX9_plan_275 rfl ?_
      refine G_nmi (fun x4 hx4 => ?_)
      have hf := nm_eq hx4 hf
      refine G_istore h dX9_plan_276  (by decide) (L' := [some (.ref v0), none, none, some (.int v3), some (.int x4), none, some (.int x2), some (.int v7)]) rfl rfl ?_
      refine G_iinc2 h dX9_plan_278 rfl ki_1 (by decide) (L' := [some (.ref v0), none, none, some (.int v3), some (.int x4), none, some (.int x2), some (.int (v7 + 1))]) rfl rfl ?_
      refine G_goto h dX9_plan_281 (tgt := 241) (by decide) ?_
      exact hk241 _ _ _ _ _ _ h_v0 hf
    refine G_icmp_ne h dX9_plan_262 (tgt := 269) (by decide) rfl (fun c3 => ?_) (fun c3 => ?_)
    · refine G_iconst h dX9_plan_269 ki_1 rfl ?_
      refine G_iload h dX9_plan_270 rfl rfl ?_
      refine G_ishl h dX9_plan_272 rfl ?_
      refine G_iconst h dX9_plan_273 ki_m1 rfl ?_
      refine G_ixor h dX9_plan_274 rfl ?_
      exact G_ifn c3 hJ
    · refine G_iconst h dX9_plan_265 ki_m1 rfl ?_
      refine G_goto h dX9_plan_266 (tgt := 275) (by decide) ?_
      exact G_ifp c3 hJ
def f_X9_plan_L241 (E : Env1) : Nat → Mem → Nat → Int32 → Int32 → Int32 → Int32 → (Option (Int32 × Mem))
  | 0 => fun _ _ _ _ _ _ => none
  | n + 1 => b_X9_plan_L241 E (f_X9_plan_L241 E n)
theorem o_X9_plan_L241 {X : Ctx} {l0 : Launch} {E : Env1} (h : Cx X l0 E RX9 cX9_plan (some .int) 8 rm_X9_plan) (hE : WF E) {M' : Mem} {r : Int32} (hR : RetI X E cX9_plan r M') : ∀ (n : Nat) (M : Mem) (v0 : Nat) (v3 : Int32) (v4 : Int32) (v6 : Int32) (v7 : Int32), isK E v0 8 → f_X9_plan_L241 E n M v0 v3 v4 v6 v7 = some (r, M') → G X E (0, 0) 241 [some (.ref v0), none, none, some (.int v3), some (.int v4), none, some (.int v6), some (.int v7)] [] M := by
  intro n
  induction n with
  | zero =>
    intro _ _ _ _ _ _ a0 hf
    have h0 : (none : Option (Int32 × Mem)) = some (r, M') := hf
    cases h0
  | succ n ih =>
    intro _ _ _ _ _ _ a0 hf
    exact ob_X9_plan_L241 h hE hR  ih a0 hf
def f_X9_plan_L200 (E : Env1) (M : Mem) (v0 : Nat) (v3 : Int32) (v4 : Int32) (v5 : Int32) : Option (Int32 × Mem) :=
  (f_X9_isMay E M v0 (0 : Int32) v4).bind fun x2 =>
  if x2 = 0 then (some ((-6 : Int32), M))
  else (
    if v3 < 0 then (f_X9_plan_L223 E M v3 v5)
    else (
      if v3 < v5 then (f_X9_plan_L241 E FU M v0 v3 v4 (-1 : Int32) (0 : Int32))
      else (f_X9_plan_L223 E M v3 v5)))
set_option maxRecDepth 100000 in
set_option maxHeartbeats 4000000 in
theorem o_X9_plan_L200 {X : Ctx} {l0 : Launch} {E : Env1} (h : Cx X l0 E RX9 cX9_plan (some .int) 8 rm_X9_plan) (hE : WF E) {M' : Mem} {r : Int32} (hR : RetI X E cX9_plan r M') {M : Mem} {v0 : Nat} {v3 : Int32} {v4 : Int32} {v5 : Int32} (h_v0 : isK E v0 8) (hf : f_X9_plan_L200 E M v0 v3 v4 v5 = some (r, M')) : G X E (0, 0) 200 [some (.ref v0), none, none, some (.int v3), some (.int v4), some (.int v5), none, none] [] M := by
  unfold f_X9_plan_L200 at hf
  refine G_aload_n h dX9_plan_200 (i := 0) rfl rfl rfl ?_
  refine G_iconst h dX9_plan_201 ki_0 rfl ?_
  refine G_iload h dX9_plan_202 rfl rfl ?_
  obtain ⟨x2, hx2, hf⟩ := bd hf
  refine cl_X9_244 h (ok_X9_isMay hE _ h_v0 hx2) dX9_plan_204 h_v0 (as := [.int (0 : Int32), .int v4]) rfl rfl ⟨rfl, rfl, Nat.le_of_ble_eq_true rfl, Nat.le_of_ble_eq_true rfl⟩ rfl (Nat.le_of_ble_eq_true rfl) (fun z1 => ?_)
  refine G_if_ne h dX9_plan_207 (tgt := 213) (by decide) rfl (fun c3 => ?_) (fun c3 => ?_)
  · have hf := it_f c3 hf
    refine G_iload_n h dX9_plan_213 (i := 3) rfl rfl rfl ?_
    refine G_if_lt h dX9_plan_214 (tgt := 223) (by decide) rfl (fun c4 => ?_) (fun c4 => ?_)
    · have hf := it_t c4 hf
      refine G_mskL [false, false, false, true, false, true, false, false] (L' := [none, none, none, some (.int v3), none, some (.int v5), none, none]) rfl ?_
      exact o_X9_plan_L223 h hE hR  hf
    · have hf := it_f c4 hf
      refine G_iload_n h dX9_plan_217 (i := 3) rfl rfl rfl ?_
      refine G_iload h dX9_plan_218 rfl rfl ?_
      refine G_icmp_lt h dX9_plan_220 (tgt := 235) (by decide) rfl (fun c5 => ?_) (fun c5 => ?_)
      · have hf := it_t c5 hf
        refine G_iconst h dX9_plan_235 ki_m1 rfl ?_
        refine G_istore h dX9_plan_236  (by decide) (L' := [some (.ref v0), none, none, some (.int v3), some (.int v4), some (.int v5), some (.int (-1 : Int32)), none]) rfl rfl ?_
        refine G_iconst h dX9_plan_238 ki_0 rfl ?_
        refine G_istore h dX9_plan_239  (by decide) (L' := [some (.ref v0), none, none, some (.int v3), some (.int v4), some (.int v5), some (.int (-1 : Int32)), some (.int (0 : Int32))]) rfl rfl ?_
        refine G_mskL [true, false, false, true, true, false, true, true] (L' := [some (.ref v0), none, none, some (.int v3), some (.int v4), none, some (.int (-1 : Int32)), some (.int (0 : Int32))]) rfl ?_
        exact o_X9_plan_L241 h hE hR  FU _ _ _ _ _ _ h_v0 hf
      · have hf := it_f c5 hf
        refine G_mskL [false, false, false, true, false, true, false, false] (L' := [none, none, none, some (.int v3), none, some (.int v5), none, none]) rfl ?_
        exact o_X9_plan_L223 h hE hR  hf
  · have hf := it_t c3 hf
    refine G_bipush h dX9_plan_210 kb_m6 rfl ?_
    exact pwI hR dX9_plan_212 hf
def b_X9_plan_L171 (E : Env1) (k171 : Mem → Nat → Int32 → Int32 → Int32 → (Option (Int32 × Mem))) (M : Mem) (v0 : Nat) (v3 : Int32) (v4 : Int32) (v5 : Int32) : Option (Int32 × Mem) :=
  if (40 : Int32) ≤ v5 then (f_X9_plan_L200 E M v0 v3 v4 v5)
  else (
    (f_X9_isMay E M v0 (0 : Int32) v4).bind fun x3 =>
    if x3 = 0 then (
      (f_X9_setMay E M v0 (v5 + 1)).bind fun x5 =>
      k171 x5 v0 v3 v4 (v5 + 1))
    else (f_X9_plan_L200 E M v0 v3 v4 v5))
set_option maxRecDepth 100000 in
set_option maxHeartbeats 4000000 in
theorem ob_X9_plan_L171 {X : Ctx} {l0 : Launch} {E : Env1} (h : Cx X l0 E RX9 cX9_plan (some .int) 8 rm_X9_plan) (hE : WF E) {M' : Mem} {r : Int32} (hR : RetI X E cX9_plan r M') {k171 : Mem → Nat → Int32 → Int32 → Int32 → (Option (Int32 × Mem))} (hk171 : ∀ (M : Mem) (v0 : Nat) (v3 : Int32) (v4 : Int32) (v5 : Int32), isK E v0 8 → k171 M v0 v3 v4 v5 = some (r, M') → G X E (0, 0) 171 [some (.ref v0), none, none, some (.int v3), some (.int v4), some (.int v5), none, none] [] M) {M : Mem} {v0 : Nat} {v3 : Int32} {v4 : Int32} {v5 : Int32} (h_v0 : isK E v0 8) (hf : b_X9_plan_L171 E k171 M v0 v3 v4 v5 = some (r, M')) : G X E (0, 0) 171 [some (.ref v0), none, none, some (.int v3), some (.int v4), some (.int v5), none, none] [] M := by
  unfold b_X9_plan_L171 at hf
  refine G_iload h dX9_plan_171 rfl rfl ?_
  refine G_bipush h dX9_plan_173 kb_40 rfl ?_
  refine G_icmp_ge h dX9_plan_175 (tgt := 200) (by decide) rfl (fun c1 => ?_) (fun c1 => ?_)
  · have hf := it_t c1 hf
    exact o_X9_plan_L200 h hE hR h_v0 hf
  · have hf := it_f c1 hf
    refine G_aload_n h dX9_plan_178 (i := 0) rfl rfl rfl ?_
    refine G_iconst h dX9_plan_179 ki_0 rfl ?_
    refine G_iload h dX9_plan_180 rfl rfl ?_
    obtain ⟨x3, hx3, hf⟩ := bd hf
    refine cl_X9_244 h (ok_X9_isMay hE _ h_v0 hx3) dX9_plan_182 h_v0 (as := [.int (0 : Int32), .int v4]) rfl rfl ⟨rfl, rfl, Nat.le_of_ble_eq_true rfl, Nat.le_of_ble_eq_true rfl⟩ rfl (Nat.le_of_ble_eq_true rfl) (fun z2 => ?_)
    refine G_if_ne h dX9_plan_185 (tgt := 200) (by decide) rfl (fun c4 => ?_) (fun c4 => ?_)
    · have hf := it_f c4 hf
      exact o_X9_plan_L200 h hE hR h_v0 hf
    · have hf := it_t c4 hf
      refine G_iinc2 h dX9_plan_188 rfl ki_1 (by decide) (L' := [some (.ref v0), none, none, some (.int v3), some (.int v4), some (.int (v5 + 1)), none, none]) rfl rfl ?_
      refine G_aload_n h dX9_plan_191 (i := 0) rfl rfl rfl ?_
      refine G_iload h dX9_plan_192 rfl rfl ?_
      obtain ⟨x5, hx5, hf⟩ := bd hf
      refine cl_X9_247 h (ok_X9_setMay hE _ h_v0 hx5) dX9_plan_194 h_v0 (as := [.int (v5 + 1)]) rfl rfl ⟨rfl, rfl, Nat.le_of_ble_eq_true rfl, Nat.le_of_ble_eq_true rfl⟩ rfl (Nat.le_of_ble_eq_true rfl) ?_
      refine G_goto h dX9_plan_197 (tgt := 171) (by decide) ?_
      exact hk171 _ _ _ _ _ h_v0 hf
def f_X9_plan_L171 (E : Env1) : Nat → Mem → Nat → Int32 → Int32 → Int32 → (Option (Int32 × Mem))
  | 0 => fun _ _ _ _ _ => none
  | n + 1 => b_X9_plan_L171 E (f_X9_plan_L171 E n)
theorem o_X9_plan_L171 {X : Ctx} {l0 : Launch} {E : Env1} (h : Cx X l0 E RX9 cX9_plan (some .int) 8 rm_X9_plan) (hE : WF E) {M' : Mem} {r : Int32} (hR : RetI X E cX9_plan r M') : ∀ (n : Nat) (M : Mem) (v0 : Nat) (v3 : Int32) (v4 : Int32) (v5 : Int32), isK E v0 8 → f_X9_plan_L171 E n M v0 v3 v4 v5 = some (r, M') → G X E (0, 0) 171 [some (.ref v0), none, none, some (.int v3), some (.int v4), some (.int v5), none, none] [] M := by
  intro n
  induction n with
  | zero =>
    intro _ _ _ _ _ a0 hf
    have h0 : (none : Option (Int32 × Mem)) = some (r, M') := hf
    cases h0
  | succ n ih =>
    intro _ _ _ _ _ a0 hf
    exact ob_X9_plan_L171 h hE hR  ih a0 hf
def b_X9_plan_L114 (E : Env1) (k96 : Mem → Nat → Int32 → Int32 → Int32 → Int32 → (Option (Int32 × Mem))) (k114 : Mem → Nat → Int32 → Int32 → Int32 → Int32 → Int32 → (Option (Int32 × Mem))) (M : Mem) (v0 : Nat) (v1 : Int32) (v3 : Int32) (v4 : Int32) (v5 : Int32) (v6 : Int32) : Option (Int32 × Mem) :=
  if (8 : Int32) ≤ v6 then (k96 M v0 v1 v3 v4 (v5 + 1))
  else (
    gd v5 24 ((f_X9_mayMeet E M v0 v1 v6 v5).bind fun x4 =>
    nm (wi M (rr E v0 24) (ix v5) ((mi M (rr E v0 24) (ix v5)) ||| (if x4 = 0 then (0 : Int32) else (1 : Int32) <<< (v6 &&& 31)))) fun M6 =>
    k114 M6 v0 v1 v3 v4 v5 (v6 + 1)))
set_option maxRecDepth 100000 in
set_option maxHeartbeats 4000000 in
theorem ob_X9_plan_L114 {X : Ctx} {l0 : Launch} {E : Env1} (h : Cx X l0 E RX9 cX9_plan (some .int) 8 rm_X9_plan) (hE : WF E) {M' : Mem} {r : Int32} (hR : RetI X E cX9_plan r M') {k96 : Mem → Nat → Int32 → Int32 → Int32 → Int32 → (Option (Int32 × Mem))} (hk96 : ∀ (M : Mem) (v0 : Nat) (v1 : Int32) (v3 : Int32) (v4 : Int32) (v5 : Int32), isK E v0 8 → k96 M v0 v1 v3 v4 v5 = some (r, M') → G X E (0, 0) 96 [some (.ref v0), some (.int v1), none, some (.int v3), some (.int v4), some (.int v5), none, none] [] M) {k114 : Mem → Nat → Int32 → Int32 → Int32 → Int32 → Int32 → (Option (Int32 × Mem))} (hk114 : ∀ (M : Mem) (v0 : Nat) (v1 : Int32) (v3 : Int32) (v4 : Int32) (v5 : Int32) (v6 : Int32), isK E v0 8 → k114 M v0 v1 v3 v4 v5 v6 = some (r, M') → G X E (0, 0) 114 [some (.ref v0), some (.int v1), none, some (.int v3), some (.int v4), some (.int v5), some (.int v6), none] [] M) {M : Mem} {v0 : Nat} {v1 : Int32} {v3 : Int32} {v4 : Int32} {v5 : Int32} {v6 : Int32} (h_v0 : isK E v0 8) (hf : b_X9_plan_L114 E k96 k114 M v0 v1 v3 v4 v5 v6 = some (r, M')) : G X E (0, 0) 114 [some (.ref v0), some (.int v1), none, some (.int v3), some (.int v4), some (.int v5), some (.int v6), none] [] M := by
  unfold b_X9_plan_L114 at hf
  refine G_iload h dX9_plan_114 rfl rfl ?_
  refine G_bipush h dX9_plan_116 kb_8 rfl ?_
  refine G_icmp_ge h dX9_plan_118 (tgt := 157) (by decide) rfl (fun c1 => ?_) (fun c1 => ?_)
  · have hf := it_t c1 hf
    refine G_iinc2 h dX9_plan_157 rfl ki_1 (by decide) (L' := [some (.ref v0), some (.int v1), none, some (.int v3), some (.int v4), some (.int (v5 + 1)), some (.int v6), none]) rfl rfl ?_
    refine G_goto h dX9_plan_160 (tgt := 96) (by decide) ?_
    refine G_mskL [true, true, false, true, true, true, false, false] (L' := [some (.ref v0), some (.int v1), none, some (.int v3), some (.int v4), some (.int (v5 + 1)), none, none]) rfl ?_
    exact hk96 _ _ _ _ _ _ h_v0 hf
  · have hf := it_f c1 hf
    refine G_aload_n h dX9_plan_121 (i := 0) rfl rfl rfl ?_
    refine gf_X9_53 h hE dX9_plan_122 h_v0 rfl ?_
    refine G_iload h dX9_plan_125 rfl rfl ?_
    refine G_dup2 h dX9_plan_127 rfl rfl rfl ?_
    obtain ⟨g2, hf⟩ := gd_some hf
    refine G_iald h dX9_plan_128 ((w_8_24 hE h_v0).2) g2 (jx := (ix v5)) rfl rfl ?_
    refine G_aload_n h dX9_plan_129 (i := 0) rfl rfl rfl ?_
    refine G_iload_n h dX9_plan_130 (i := 1) rfl rfl rfl ?_
    refine G_iload h dX9_plan_131 rfl rfl ?_
    refine G_iload h dX9_plan_133 rfl rfl ?_
    obtain ⟨x4, hx4, hf⟩ := bd hf
    refine cl_X9_213 h (ok_X9_mayMeet hE _ h_v0 hx4) dX9_plan_135 h_v0 (as := [.int v1, .int v6, .int v5]) rfl rfl ⟨rfl, rfl, Nat.le_of_ble_eq_true rfl, Nat.le_of_ble_eq_true rfl⟩ rfl (Nat.le_of_ble_eq_true rfl) (fun z3 => ?_)
    have hJ : G X E (0, 0) 149 [some (.ref v0), some (.int v1), none, some (.int v3), some (.int v4), some (.int v5), some (.int v6), none] [.int (if x4 = 0 then (0 : Int32) else (1 : Int32) <<< (v6 &&& 31)), .int (mi M (rr E v0 24) (ix v5)), .int v5, .ref (rr E v0 24)] M := by
      refine G_ior h dX9_plan_149 rfl ?_
      refine G_iast h dX9_plan_150 ((w_8_24 hE h_v0).2) g2 (jx := (ix v5)) rfl rfl ?_
      refine G_nmM (fun M6 hM6 => ?_)
      have hf := nm_eq hM6 hf
      refine G_iinc2 h dX9_plan_151 rfl ki_1 (by decide) (L' := [some (.ref v0), some (.int v1), none, some (.int v3), some (.int v4), some (.int v5), some (.int (v6 + 1)), none]) rfl rfl ?_
      refine G_goto h dX9_plan_154 (tgt := 114) (by decide) ?_
      exact hk114 _ _ _ _ _ _ _ h_v0 hf
    refine G_if_eq h dX9_plan_138 (tgt := 148) (by decide) rfl (fun c5 => ?_) (fun c5 => ?_)
    · refine G_iconst h dX9_plan_148 ki_0 rfl ?_
      exact G_ifp c5 hJ
    · refine G_iconst h dX9_plan_141 ki_1 rfl ?_
      refine G_iload h dX9_plan_142 rfl rfl ?_
      refine G_ishl h dX9_plan_144 rfl ?_
      refine G_goto h dX9_plan_145 (tgt := 149) (by decide) ?_
      exact G_ifn c5 hJ
def f_X9_plan_L114 (E : Env1) (k96 : Mem → Nat → Int32 → Int32 → Int32 → Int32 → (Option (Int32 × Mem))) : Nat → Mem → Nat → Int32 → Int32 → Int32 → Int32 → Int32 → (Option (Int32 × Mem))
  | 0 => fun _ _ _ _ _ _ _ => none
  | n + 1 => b_X9_plan_L114 E k96 (f_X9_plan_L114 E k96 n)
theorem o_X9_plan_L114 {X : Ctx} {l0 : Launch} {E : Env1} (h : Cx X l0 E RX9 cX9_plan (some .int) 8 rm_X9_plan) (hE : WF E) {M' : Mem} {r : Int32} (hR : RetI X E cX9_plan r M') {k96 : Mem → Nat → Int32 → Int32 → Int32 → Int32 → (Option (Int32 × Mem))} (hk96 : ∀ (M : Mem) (v0 : Nat) (v1 : Int32) (v3 : Int32) (v4 : Int32) (v5 : Int32), isK E v0 8 → k96 M v0 v1 v3 v4 v5 = some (r, M') → G X E (0, 0) 96 [some (.ref v0), some (.int v1), none, some (.int v3), some (.int v4), some (.int v5), none, none] [] M) : ∀ (n : Nat) (M : Mem) (v0 : Nat) (v1 : Int32) (v3 : Int32) (v4 : Int32) (v5 : Int32) (v6 : Int32), isK E v0 8 → f_X9_plan_L114 E k96 n M v0 v1 v3 v4 v5 v6 = some (r, M') → G X E (0, 0) 114 [some (.ref v0), some (.int v1), none, some (.int v3), some (.int v4), some (.int v5), some (.int v6), none] [] M := by
  intro n
  induction n with
  | zero =>
    intro _ _ _ _ _ _ _ a0 hf
    have h0 : (none : Option (Int32 × Mem)) = some (r, M') := hf
    cases h0
  | succ n ih =>
    intro _ _ _ _ _ _ _ a0 hf
    exact ob_X9_plan_L114 h hE hR hk96 ih a0 hf
def b_X9_plan_L96 (E : Env1) (k96 : Mem → Nat → Int32 → Int32 → Int32 → Int32 → (Option (Int32 × Mem))) (M : Mem) (v0 : Nat) (v1 : Int32) (v3 : Int32) (v4 : Int32) (v5 : Int32) : Option (Int32 × Mem) :=
  if (24 : Int32) ≤ v5 then (
    (f_X9_setMay E M v0 (0 : Int32)).bind fun x2 =>
    f_X9_plan_L171 E FU x2 v0 v3 v4 (0 : Int32))
  else (gd v5 24 (f_X9_plan_L114 E k96 FU (wi M (rr E v0 24) (ix v5) (0 : Int32)) v0 v1 v3 v4 v5 (0 : Int32)))
set_option maxRecDepth 100000 in
set_option maxHeartbeats 4000000 in
theorem ob_X9_plan_L96 {X : Ctx} {l0 : Launch} {E : Env1} (h : Cx X l0 E RX9 cX9_plan (some .int) 8 rm_X9_plan) (hE : WF E) {M' : Mem} {r : Int32} (hR : RetI X E cX9_plan r M') {k96 : Mem → Nat → Int32 → Int32 → Int32 → Int32 → (Option (Int32 × Mem))} (hk96 : ∀ (M : Mem) (v0 : Nat) (v1 : Int32) (v3 : Int32) (v4 : Int32) (v5 : Int32), isK E v0 8 → k96 M v0 v1 v3 v4 v5 = some (r, M') → G X E (0, 0) 96 [some (.ref v0), some (.int v1), none, some (.int v3), some (.int v4), some (.int v5), none, none] [] M) {M : Mem} {v0 : Nat} {v1 : Int32} {v3 : Int32} {v4 : Int32} {v5 : Int32} (h_v0 : isK E v0 8) (hf : b_X9_plan_L96 E k96 M v0 v1 v3 v4 v5 = some (r, M')) : G X E (0, 0) 96 [some (.ref v0), some (.int v1), none, some (.int v3), some (.int v4), some (.int v5), none, none] [] M := by
  unfold b_X9_plan_L96 at hf
  refine G_iload h dX9_plan_96 rfl rfl ?_
  refine G_bipush h dX9_plan_98 kb_24 rfl ?_
  refine G_icmp_ge h dX9_plan_100 (tgt := 163) (by decide) rfl (fun c1 => ?_) (fun c1 => ?_)
  · have hf := it_t c1 hf
    refine G_iconst h dX9_plan_163 ki_0 rfl ?_
    refine G_istore h dX9_plan_164  (by decide) (L' := [some (.ref v0), some (.int v1), none, some (.int v3), some (.int v4), some (.int (0 : Int32)), none, none]) rfl rfl ?_
    refine G_aload_n h dX9_plan_166 (i := 0) rfl rfl rfl ?_
    refine G_iconst h dX9_plan_167 ki_0 rfl ?_
    obtain ⟨x2, hx2, hf⟩ := bd hf
    refine cl_X9_247 h (ok_X9_setMay hE _ h_v0 hx2) dX9_plan_168 h_v0 (as := [.int (0 : Int32)]) rfl rfl ⟨rfl, rfl, Nat.le_of_ble_eq_true rfl, Nat.le_of_ble_eq_true rfl⟩ rfl (Nat.le_of_ble_eq_true rfl) ?_
    refine G_mskL [true, false, false, true, true, true, false, false] (L' := [some (.ref v0), none, none, some (.int v3), some (.int v4), some (.int (0 : Int32)), none, none]) rfl ?_
    exact o_X9_plan_L171 h hE hR  FU _ _ _ _ _ h_v0 hf
  · have hf := it_f c1 hf
    refine G_aload_n h dX9_plan_103 (i := 0) rfl rfl rfl ?_
    refine gf_X9_53 h hE dX9_plan_104 h_v0 rfl ?_
    refine G_iload h dX9_plan_107 rfl rfl ?_
    refine G_iconst h dX9_plan_109 ki_0 rfl ?_
    obtain ⟨g3, hf⟩ := gd_some hf
    refine G_iast h dX9_plan_110 ((w_8_24 hE h_v0).2) g3 (jx := (ix v5)) rfl rfl ?_
    refine G_iconst h dX9_plan_111 ki_0 rfl ?_
    refine G_istore h dX9_plan_112  (by decide) (L' := [some (.ref v0), some (.int v1), none, some (.int v3), some (.int v4), some (.int v5), some (.int (0 : Int32)), none]) rfl rfl ?_
    exact o_X9_plan_L114 h hE hR hk96 FU _ _ _ _ _ _ _ h_v0 hf
def f_X9_plan_L96 (E : Env1) : Nat → Mem → Nat → Int32 → Int32 → Int32 → Int32 → (Option (Int32 × Mem))
  | 0 => fun _ _ _ _ _ _ => none
  | n + 1 => b_X9_plan_L96 E (f_X9_plan_L96 E n)
theorem o_X9_plan_L96 {X : Ctx} {l0 : Launch} {E : Env1} (h : Cx X l0 E RX9 cX9_plan (some .int) 8 rm_X9_plan) (hE : WF E) {M' : Mem} {r : Int32} (hR : RetI X E cX9_plan r M') : ∀ (n : Nat) (M : Mem) (v0 : Nat) (v1 : Int32) (v3 : Int32) (v4 : Int32) (v5 : Int32), isK E v0 8 → f_X9_plan_L96 E n M v0 v1 v3 v4 v5 = some (r, M') → G X E (0, 0) 96 [some (.ref v0), some (.int v1), none, some (.int v3), some (.int v4), some (.int v5), none, none] [] M := by
  intro n
  induction n with
  | zero =>
    intro _ _ _ _ _ _ a0 hf
    have h0 : (none : Option (Int32 × Mem)) = some (r, M') := hf
    cases h0
  | succ n ih =>
    intro _ _ _ _ _ _ a0 hf
    exact ob_X9_plan_L96 h hE hR  ih a0 hf
def b_X9_plan_L47 (E : Env1) (k47 : Mem → Nat → Int32 → Int32 → Int32 → Int32 → Int32 → (Option (Int32 × Mem))) (M : Mem) (v0 : Nat) (v1 : Int32) (v2 : Int32) (v3 : Int32) (v4 : Int32) (v5 : Int32) : Option (Int32 × Mem) :=
  if v2 < v5 then (f_X9_plan_L96 E FU M v0 v1 v3 v4 (0 : Int32))
  else (
    if (8 : Int32) ≤ v5 then (f_X9_plan_L96 E FU M v0 v1 v3 v4 (0 : Int32))
    else (
      gd v1 6 (nm (v4 ||| (if (f_X9_has E M (mi M (rr E v0 10) (ix v1)) v5) = 0 then (1 : Int32) <<< (v5 &&& 31) else (0 : Int32))) fun x6 =>
      k47 M v0 v1 v2 v3 x6 (v5 + 1))))
set_option maxRecDepth 100000 in
set_option maxHeartbeats 4000000 in
theorem ob_X9_plan_L47 {X : Ctx} {l0 : Launch} {E : Env1} (h : Cx X l0 E RX9 cX9_plan (some .int) 8 rm_X9_plan) (hE : WF E) {M' : Mem} {r : Int32} (hR : RetI X E cX9_plan r M') {k47 : Mem → Nat → Int32 → Int32 → Int32 → Int32 → Int32 → (Option (Int32 × Mem))} (hk47 : ∀ (M : Mem) (v0 : Nat) (v1 : Int32) (v2 : Int32) (v3 : Int32) (v4 : Int32) (v5 : Int32), isK E v0 8 → k47 M v0 v1 v2 v3 v4 v5 = some (r, M') → G X E (0, 0) 47 [some (.ref v0), some (.int v1), some (.int v2), some (.int v3), some (.int v4), some (.int v5), none, none] [] M) {M : Mem} {v0 : Nat} {v1 : Int32} {v2 : Int32} {v3 : Int32} {v4 : Int32} {v5 : Int32} (h_v0 : isK E v0 8) (hf : b_X9_plan_L47 E k47 M v0 v1 v2 v3 v4 v5 = some (r, M')) : G X E (0, 0) 47 [some (.ref v0), some (.int v1), some (.int v2), some (.int v3), some (.int v4), some (.int v5), none, none] [] M := by
  unfold b_X9_plan_L47 at hf
  refine G_iload h dX9_plan_47 rfl rfl ?_
  refine G_iload_n h dX9_plan_49 (i := 2) rfl rfl rfl ?_
  refine G_icmp_gt h dX9_plan_50 (tgt := 93) (by decide) rfl (fun c1 => ?_) (fun c1 => ?_)
  · have hf := it_t c1 hf
    refine G_iconst h dX9_plan_93 ki_0 rfl ?_
    refine G_istore h dX9_plan_94  (by decide) (L' := [some (.ref v0), some (.int v1), some (.int v2), some (.int v3), some (.int v4), some (.int (0 : Int32)), none, none]) rfl rfl ?_
    refine G_mskL [true, true, false, true, true, true, false, false] (L' := [some (.ref v0), some (.int v1), none, some (.int v3), some (.int v4), some (.int (0 : Int32)), none, none]) rfl ?_
    exact o_X9_plan_L96 h hE hR  FU _ _ _ _ _ _ h_v0 hf
  · have hf := it_f c1 hf
    refine G_iload h dX9_plan_53 rfl rfl ?_
    refine G_bipush h dX9_plan_55 kb_8 rfl ?_
    refine G_icmp_ge h dX9_plan_57 (tgt := 93) (by decide) rfl (fun c2 => ?_) (fun c2 => ?_)
    · have hf := it_t c2 hf
      refine G_iconst h dX9_plan_93 ki_0 rfl ?_
      refine G_istore h dX9_plan_94  (by decide) (L' := [some (.ref v0), some (.int v1), some (.int v2), some (.int v3), some (.int v4), some (.int (0 : Int32)), none, none]) rfl rfl ?_
      refine G_mskL [true, true, false, true, true, true, false, false] (L' := [some (.ref v0), some (.int v1), none, some (.int v3), some (.int v4), some (.int (0 : Int32)), none, none]) rfl ?_
      exact o_X9_plan_L96 h hE hR  FU _ _ _ _ _ _ h_v0 hf
    · have hf := it_f c2 hf
      refine G_iload h dX9_plan_60 rfl rfl ?_
      refine G_aload_n h dX9_plan_62 (i := 0) rfl rfl rfl ?_
      refine gf_X9_22 h hE dX9_plan_63 h_v0 rfl ?_
      refine G_iload_n h dX9_plan_66 (i := 1) rfl rfl rfl ?_
      obtain ⟨g3, hf⟩ := gd_some hf
      refine G_iald h dX9_plan_67 ((w_8_10 hE h_v0).2) g3 (jx := (ix v1)) rfl rfl ?_
      refine G_iload h dX9_plan_68 rfl rfl ?_
      refine cl_X9_189 h (ok_X9_has hE _  (r := f_X9_has E M (mi M (rr E v0 10) (ix v1)) v5) rfl) dX9_plan_70 (as := [.int (mi M (rr E v0 10) (ix v1)), .int v5]) rfl rfl ⟨rfl, rfl, Nat.le_of_ble_eq_true rfl, Nat.le_of_ble_eq_true rfl⟩ rfl (Nat.le_of_ble_eq_true rfl) (fun z4 => ?_)
      have hJ : G X E (0, 0) 84 [some (.ref v0), some (.int v1), some (.int v2), some (.int v3), some (.int v4), some (.int v5), none, none] [.int (if (f_X9_has E M (mi M (rr E v0 10) (ix v1)) v5) = 0 then (1 : Int32) <<< (v5 &&& 31) else (0 : Int32)), .int v4] M := by
        refine G_ior h dX9_plan_84 rfl ?_
        refine G_nmi (fun x6 hx6 => ?_)
        have hf := nm_eq hx6 hf
        refine G_istore h dX9_plan_85  (by decide) (L' := [some (.ref v0), some (.int v1), some (.int v2), some (.int v3), some (.int x6), some (.int v5), none, none]) rfl rfl ?_
        refine G_iinc2 h dX9_plan_87 rfl ki_1 (by decide) (L' := [some (.ref v0), some (.int v1), some (.int v2), some (.int v3), some (.int x6), some (.int (v5 + 1)), none, none]) rfl rfl ?_
        refine G_goto h dX9_plan_90 (tgt := 47) (by decide) ?_
        exact hk47 _ _ _ _ _ _ _ h_v0 hf
      refine G_if_eq h dX9_plan_73 (tgt := 80) (by decide) rfl (fun c5 => ?_) (fun c5 => ?_)
      · refine G_iconst h dX9_plan_80 ki_1 rfl ?_
        refine G_iload h dX9_plan_81 rfl rfl ?_
        refine G_ishl h dX9_plan_83 rfl ?_
        exact G_ifp c5 hJ
      · refine G_iconst h dX9_plan_76 ki_0 rfl ?_
        refine G_goto h dX9_plan_77 (tgt := 84) (by decide) ?_
        exact G_ifn c5 hJ
def f_X9_plan_L47 (E : Env1) : Nat → Mem → Nat → Int32 → Int32 → Int32 → Int32 → Int32 → (Option (Int32 × Mem))
  | 0 => fun _ _ _ _ _ _ _ => none
  | n + 1 => b_X9_plan_L47 E (f_X9_plan_L47 E n)
theorem o_X9_plan_L47 {X : Ctx} {l0 : Launch} {E : Env1} (h : Cx X l0 E RX9 cX9_plan (some .int) 8 rm_X9_plan) (hE : WF E) {M' : Mem} {r : Int32} (hR : RetI X E cX9_plan r M') : ∀ (n : Nat) (M : Mem) (v0 : Nat) (v1 : Int32) (v2 : Int32) (v3 : Int32) (v4 : Int32) (v5 : Int32), isK E v0 8 → f_X9_plan_L47 E n M v0 v1 v2 v3 v4 v5 = some (r, M') → G X E (0, 0) 47 [some (.ref v0), some (.int v1), some (.int v2), some (.int v3), some (.int v4), some (.int v5), none, none] [] M := by
  intro n
  induction n with
  | zero =>
    intro _ _ _ _ _ _ _ a0 hf
    have h0 : (none : Option (Int32 × Mem)) = some (r, M') := hf
    cases h0
  | succ n ih =>
    intro _ _ _ _ _ _ _ a0 hf
    exact ob_X9_plan_L47 h hE hR  ih a0 hf
def f_X9_plan (E : Env1) (M : Mem) (v0 : Nat) (v1 : Int32) (v2 : Int32) (v3 : Int32) : Option (Int32 × Mem) :=
  if (f_X9_isOne E M v0 v1) = 0 then (
    nm (f_X9_tenBad E M v0) fun x3 =>
    some (x3.1, x3.2))
  else (
    if (f_X9_in E M v2 (0 : Int32) (8 : Int32)) = 0 then (
      nm (f_X9_tenBad E M v0) fun x6 =>
      some (x6.1, x6.2))
    else (
      if v3 = (-1 : Int32) then (
        nm (f_X9_tenBad E M v0) fun x8 =>
        some (x8.1, x8.2))
      else (
        if (-2 : Int32) ≤ v3 then (
          gd v1 6 (nm ((mi M (rr E v0 9) (ix v1)) + (1 : Int32)) fun x11 =>
          f_X9_plan_L47 E FU M v0 v1 v2 v3 (0 : Int32) x11))
        else (
          nm (f_X9_tenBad E M v0) fun x12 =>
          some (x12.1, x12.2)))))
set_option maxRecDepth 100000 in
set_option maxHeartbeats 4000000 in
theorem ok_X9_plan {E : Env1} (hE : WF E) (l0 : Launch) {M : Mem} {M' : Mem} {v0 : Nat} {v1 : Int32} {v2 : Int32} {v3 : Int32} {r : Int32} (h0 : isK E v0 8) (hf : f_X9_plan E M v0 v1 v2 v3 = some (r, M')) : Met l0 yX9_plan (wsA yX9_plan cX9_plan 8 (some .int)) rm_X9_plan (CP E M [.ref v0, .int v1, .int v2, .int v3]) (CQi E r M') 0 0 (eA E) := by
  unfold f_X9_plan at hf
  refine mtI l0 (by decide +kernel) (Nat.le_of_ble_eq_true rfl) (L0 := [some (.ref v0), some (.int v1), some (.int v2), some (.int v3), none, none, none, none]) rfl (fun X h hR => ?_)
  refine G_aload_n h dX9_plan_0 (i := 0) rfl rfl rfl ?_
  refine G_iload_n h dX9_plan_1 (i := 1) rfl rfl rfl ?_
  refine cl_X9_216 h (ok_X9_isOne hE _ h0 (r := f_X9_isOne E M v0 v1) rfl) dX9_plan_2 h0 (as := [.int v1]) rfl rfl ⟨rfl, rfl, Nat.le_of_ble_eq_true rfl, Nat.le_of_ble_eq_true rfl⟩ rfl (Nat.le_of_ble_eq_true rfl) (fun z1 => ?_)
  refine G_if_eq h dX9_plan_5 (tgt := 29) (by decide) rfl (fun c2 => ?_) (fun c2 => ?_)
  · have hf := it_t c2 hf
    refine G_aload_n h dX9_plan_29 (i := 0) rfl rfl rfl ?_
    obtain ⟨x3, hx3⟩ : ∃ x, x = f_X9_tenBad E M v0 := ⟨_, rfl⟩
    have hf := nm_eq hx3 hf
    refine cl_X9_232 h (ok_X9_tenBad hE _ h0 hx3.symm) dX9_plan_30 h0 (as := []) rfl rfl ⟨rfl, rfl, Nat.le_of_ble_eq_true rfl, Nat.le_of_ble_eq_true rfl⟩ rfl (Nat.le_of_ble_eq_true rfl) ?_
    exact pwI hR dX9_plan_33 hf
  · have hf := it_f c2 hf
    refine G_iload_n h dX9_plan_8 (i := 2) rfl rfl rfl ?_
    refine G_iconst h dX9_plan_9 ki_0 rfl ?_
    refine G_bipush h dX9_plan_10 kb_8 rfl ?_
    refine cl_X9_91 h (ok_X9_in hE _  (r := f_X9_in E M v2 (0 : Int32) (8 : Int32)) rfl) dX9_plan_12 (as := [.int v2, .int (0 : Int32), .int (8 : Int32)]) rfl rfl ⟨rfl, rfl, Nat.le_of_ble_eq_true rfl, Nat.le_of_ble_eq_true rfl⟩ rfl (Nat.le_of_ble_eq_true rfl) (fun z4 => ?_)
    refine G_if_eq h dX9_plan_15 (tgt := 29) (by decide) rfl (fun c5 => ?_) (fun c5 => ?_)
    · have hf := it_t c5 hf
      refine G_aload_n h dX9_plan_29 (i := 0) rfl rfl rfl ?_
      obtain ⟨x6, hx6⟩ : ∃ x, x = f_X9_tenBad E M v0 := ⟨_, rfl⟩
      have hf := nm_eq hx6 hf
      refine cl_X9_232 h (ok_X9_tenBad hE _ h0 hx6.symm) dX9_plan_30 h0 (as := []) rfl rfl ⟨rfl, rfl, Nat.le_of_ble_eq_true rfl, Nat.le_of_ble_eq_true rfl⟩ rfl (Nat.le_of_ble_eq_true rfl) ?_
      exact pwI hR dX9_plan_33 hf
    · have hf := it_f c5 hf
      refine G_iload_n h dX9_plan_18 (i := 3) rfl rfl rfl ?_
      refine G_iconst h dX9_plan_19 ki_m1 rfl ?_
      refine G_icmp_eq h dX9_plan_20 (tgt := 29) (by decide) rfl (fun c7 => ?_) (fun c7 => ?_)
      · have hf := it_t c7 hf
        refine G_aload_n h dX9_plan_29 (i := 0) rfl rfl rfl ?_
        obtain ⟨x8, hx8⟩ : ∃ x, x = f_X9_tenBad E M v0 := ⟨_, rfl⟩
        have hf := nm_eq hx8 hf
        refine cl_X9_232 h (ok_X9_tenBad hE _ h0 hx8.symm) dX9_plan_30 h0 (as := []) rfl rfl ⟨rfl, rfl, Nat.le_of_ble_eq_true rfl, Nat.le_of_ble_eq_true rfl⟩ rfl (Nat.le_of_ble_eq_true rfl) ?_
        exact pwI hR dX9_plan_33 hf
      · have hf := it_f c7 hf
        refine G_iload_n h dX9_plan_23 (i := 3) rfl rfl rfl ?_
        refine G_bipush h dX9_plan_24 kb_m2 rfl ?_
        refine G_icmp_ge h dX9_plan_26 (tgt := 34) (by decide) rfl (fun c9 => ?_) (fun c9 => ?_)
        · have hf := it_t c9 hf
          refine G_iconst h dX9_plan_34 ki_0 rfl ?_
          refine G_istore h dX9_plan_35  (by decide) (L' := [some (.ref v0), some (.int v1), some (.int v2), some (.int v3), some (.int (0 : Int32)), none, none, none]) rfl rfl ?_
          refine G_aload_n h dX9_plan_37 (i := 0) rfl rfl rfl ?_
          refine gf_X9_19 h hE dX9_plan_38 h0 rfl ?_
          refine G_iload_n h dX9_plan_41 (i := 1) rfl rfl rfl ?_
          obtain ⟨g10, hf⟩ := gd_some hf
          refine G_iald h dX9_plan_42 ((w_8_9 hE h0).2) g10 (jx := (ix v1)) rfl rfl ?_
          refine G_iconst h dX9_plan_43 ki_1 rfl ?_
          refine G_iadd h dX9_plan_44 rfl ?_
          refine G_nmi (fun x11 hx11 => ?_)
          have hf := nm_eq hx11 hf
          refine G_istore h dX9_plan_45  (by decide) (L' := [some (.ref v0), some (.int v1), some (.int v2), some (.int v3), some (.int (0 : Int32)), some (.int x11), none, none]) rfl rfl ?_
          exact o_X9_plan_L47 h hE hR  FU _ _ _ _ _ _ _ h0 hf
        · have hf := it_f c9 hf
          refine G_aload_n h dX9_plan_29 (i := 0) rfl rfl rfl ?_
          obtain ⟨x12, hx12⟩ : ∃ x, x = f_X9_tenBad E M v0 := ⟨_, rfl⟩
          have hf := nm_eq hx12 hf
          refine cl_X9_232 h (ok_X9_tenBad hE _ h0 hx12.symm) dX9_plan_30 h0 (as := []) rfl rfl ⟨rfl, rfl, Nat.le_of_ble_eq_true rfl, Nat.le_of_ble_eq_true rfl⟩ rfl (Nat.le_of_ble_eq_true rfl) ?_
          exact pwI hR dX9_plan_33 hf
def rm_X9_wordSize : Room := { frames := 2, cells := 0, slots := 0, locals := 42 }
def b_X9_wordSize_L2 (E : Env1) (M : Mem) (k2 : Nat → Int32 → (Option (Int32))) (v0 : Nat) (v1 : Int32) : Option (Int32) :=
  if (mi M v0 16) ≤ ((mi M v0 17) + v1) then (some v1)
  else (
    gd ((mi M v0 17) + v1) 150 (if (f_X9_isLetter E M (mi M (rr E v0 15) (ix ((mi M v0 17) + v1)))) = 0 then (some v1)
    else (k2 v0 (v1 + 1))))
set_option maxRecDepth 100000 in
set_option maxHeartbeats 4000000 in
theorem ob_X9_wordSize_L2 {X : Ctx} {l0 : Launch} {E : Env1} (h : Cx X l0 E RX9 cX9_wordSize (some .int) 2 rm_X9_wordSize) (hE : WF E) {M : Mem} {r : Int32} (hR : RetI X E cX9_wordSize r M) {k2 : Nat → Int32 → (Option (Int32))} (hk2 : ∀ (v0 : Nat) (v1 : Int32), isK E v0 8 → k2 v0 v1 = some r → G X E (0, 0) 2 [some (.ref v0), some (.int v1)] [] M) {v0 : Nat} {v1 : Int32} (h_v0 : isK E v0 8) (hf : b_X9_wordSize_L2 E M k2 v0 v1 = some r) : G X E (0, 0) 2 [some (.ref v0), some (.int v1)] [] M := by
  unfold b_X9_wordSize_L2 at hf
  refine G_aload_n h dX9_wordSize_2 (i := 0) rfl rfl rfl ?_
  refine gf_X9_109 h dX9_wordSize_3 h_v0 rfl ?_
  refine G_iload_n h dX9_wordSize_6 (i := 1) rfl rfl rfl ?_
  refine G_iadd h dX9_wordSize_7 rfl ?_
  refine G_aload_n h dX9_wordSize_8 (i := 0) rfl rfl rfl ?_
  refine gf_X9_106 h dX9_wordSize_9 h_v0 rfl ?_
  refine G_icmp_ge h dX9_wordSize_12 (tgt := 38) (by decide) rfl (fun c1 => ?_) (fun c1 => ?_)
  · have hf := it_t c1 hf
    refine G_iload_n h dX9_wordSize_38 (i := 1) rfl rfl rfl ?_
    exact roI hR dX9_wordSize_39 hf
  · have hf := it_f c1 hf
    refine G_aload_n h dX9_wordSize_15 (i := 0) rfl rfl rfl ?_
    refine gf_X9_37 h hE dX9_wordSize_16 h_v0 rfl ?_
    refine G_aload_n h dX9_wordSize_19 (i := 0) rfl rfl rfl ?_
    refine gf_X9_109 h dX9_wordSize_20 h_v0 rfl ?_
    refine G_iload_n h dX9_wordSize_23 (i := 1) rfl rfl rfl ?_
    refine G_iadd h dX9_wordSize_24 rfl ?_
    obtain ⟨g2, hf⟩ := gd_some hf
    refine G_iald h dX9_wordSize_25 ((w_8_15 hE h_v0).2) g2 (jx := (ix ((mi M v0 17) + v1))) rfl rfl ?_
    refine cl_X9_115 h (ok_X9_isLetter hE _  (r := f_X9_isLetter E M (mi M (rr E v0 15) (ix ((mi M v0 17) + v1)))) rfl) dX9_wordSize_26 (as := [.int (mi M (rr E v0 15) (ix ((mi M v0 17) + v1)))]) rfl rfl ⟨rfl, rfl, Nat.le_of_ble_eq_true rfl, Nat.le_of_ble_eq_true rfl⟩ rfl (Nat.le_of_ble_eq_true rfl) (fun z3 => ?_)
    refine G_if_eq h dX9_wordSize_29 (tgt := 38) (by decide) rfl (fun c4 => ?_) (fun c4 => ?_)
    · have hf := it_t c4 hf
      refine G_iload_n h dX9_wordSize_38 (i := 1) rfl rfl rfl ?_
      exact roI hR dX9_wordSize_39 hf
    · have hf := it_f c4 hf
      refine G_iinc2 h dX9_wordSize_32 rfl ki_1 (by decide) (L' := [some (.ref v0), some (.int (v1 + 1))]) rfl rfl ?_
      refine G_goto h dX9_wordSize_35 (tgt := 2) (by decide) ?_
      exact hk2 _ _ h_v0 hf
def f_X9_wordSize_L2 (E : Env1) (M : Mem) : Nat → Nat → Int32 → (Option (Int32))
  | 0 => fun _ _ => none
  | n + 1 => b_X9_wordSize_L2 E M (f_X9_wordSize_L2 E M n)
theorem o_X9_wordSize_L2 {X : Ctx} {l0 : Launch} {E : Env1} (h : Cx X l0 E RX9 cX9_wordSize (some .int) 2 rm_X9_wordSize) (hE : WF E) {M : Mem} {r : Int32} (hR : RetI X E cX9_wordSize r M) : ∀ (n : Nat) (v0 : Nat) (v1 : Int32), isK E v0 8 → f_X9_wordSize_L2 E M n v0 v1 = some r → G X E (0, 0) 2 [some (.ref v0), some (.int v1)] [] M := by
  intro n
  induction n with
  | zero =>
    intro _ _ a0 hf
    have h0 : (none : Option (Int32)) = some r := hf
    cases h0
  | succ n ih =>
    intro _ _ a0 hf
    exact ob_X9_wordSize_L2 h hE hR  ih a0 hf
def f_X9_wordSize (E : Env1) (M : Mem) (v0 : Nat) : Option (Int32) :=
  f_X9_wordSize_L2 E M FU v0 (0 : Int32)
set_option maxRecDepth 100000 in
set_option maxHeartbeats 4000000 in
theorem ok_X9_wordSize {E : Env1} (hE : WF E) (l0 : Launch) {M : Mem} {v0 : Nat} {r : Int32} (h0 : isK E v0 8) (hf : f_X9_wordSize E M v0 = some r) : Met l0 yX9_wordSize (wsA yX9_wordSize cX9_wordSize 2 (some .int)) rm_X9_wordSize (CP E M [.ref v0]) (CQi E r M) 0 0 (eA E) := by
  unfold f_X9_wordSize at hf
  refine mtI l0 (by decide +kernel) (Nat.le_of_ble_eq_true rfl) (L0 := [some (.ref v0), none]) rfl (fun X h hR => ?_)
  refine G_iconst h dX9_wordSize_0 ki_0 rfl ?_
  refine G_istore_n h dX9_wordSize_1 (i := 1) rfl (by decide) (L' := [some (.ref v0), some (.int (0 : Int32))]) rfl rfl ?_
  exact o_X9_wordSize_L2 h hE hR  FU _ _ h0 hf
def rm_X9_wordHere : Room := { frames := 3, cells := 0, slots := 0, locals := 63 }
def f_X9_wordHere_L315 (E : Env1) (M : Mem) (v0 : Nat) (s0 : Int32) : Option (Int32) :=
  if s0 = 0 then (some (-1 : Int32))
  else (
    (f_X9_letter E M v0 (4 : Int32)).bind fun x2 =>
    if x2 = (116 : Int32) then (
      (f_X9_letter E M v0 (5 : Int32)).bind fun x4 =>
      if x4 = (101 : Int32) then (
        (f_X9_letter E M v0 (6 : Int32)).bind fun x6 =>
        if x6 = (115 : Int32) then (some (5 : Int32))
        else (some (-1 : Int32)))
      else (some (-1 : Int32)))
    else (some (-1 : Int32)))
set_option maxRecDepth 100000 in
set_option maxHeartbeats 4000000 in
theorem o_X9_wordHere_L315 {X : Ctx} {l0 : Launch} {E : Env1} (h : Cx X l0 E RX9 cX9_wordHere (some .int) 3 rm_X9_wordHere) (hE : WF E) {M : Mem} {r : Int32} (hR : RetI X E cX9_wordHere r M) {v0 : Nat} {s0 : Int32} (h_v0 : isK E v0 8) (z_s0 : s0 = 0 ∨ s0 = 1) (hf : f_X9_wordHere_L315 E M v0 s0 = some r) : G X E (0, 0) 315 [some (.ref v0), none, none] [.int s0] M := by
  unfold f_X9_wordHere_L315 at hf
  refine G_istore_n h dX9_wordHere_315 (i := 2) rfl (by decide) (L' := [some (.ref v0), none, some (.int s0)]) rfl rfl ?_
  refine G_iload_n h dX9_wordHere_316 (i := 2) rfl rfl rfl ?_
  refine G_if_eq h dX9_wordHere_317 (tgt := 355) (by decide) rfl (fun c1 => ?_) (fun c1 => ?_)
  · have hf := it_t c1 hf
    refine G_iconst h dX9_wordHere_355 ki_m1 rfl ?_
    exact roI hR dX9_wordHere_356 hf
  · have hf := it_f c1 hf
    refine G_aload_n h dX9_wordHere_320 (i := 0) rfl rfl rfl ?_
    refine G_iconst h dX9_wordHere_321 ki_4 rfl ?_
    obtain ⟨x2, hx2, hf⟩ := bd hf
    refine cl_X9_122 h (ok_X9_letter hE _ h_v0 hx2) dX9_wordHere_322 h_v0 (as := [.int (4 : Int32)]) rfl rfl ⟨rfl, rfl, Nat.le_of_ble_eq_true rfl, Nat.le_of_ble_eq_true rfl⟩ rfl (Nat.le_of_ble_eq_true rfl) ?_
    refine G_bipush h dX9_wordHere_325 kb_116 rfl ?_
    refine G_icmp_ne h dX9_wordHere_327 (tgt := 355) (by decide) rfl (fun c3 => ?_) (fun c3 => ?_)
    · have hf := it_f c3 hf
      refine G_iconst h dX9_wordHere_355 ki_m1 rfl ?_
      exact roI hR dX9_wordHere_356 hf
    · have hf := it_t c3 hf
      refine G_aload_n h dX9_wordHere_330 (i := 0) rfl rfl rfl ?_
      refine G_iconst h dX9_wordHere_331 ki_5 rfl ?_
      obtain ⟨x4, hx4, hf⟩ := bd hf
      refine cl_X9_122 h (ok_X9_letter hE _ h_v0 hx4) dX9_wordHere_332 h_v0 (as := [.int (5 : Int32)]) rfl rfl ⟨rfl, rfl, Nat.le_of_ble_eq_true rfl, Nat.le_of_ble_eq_true rfl⟩ rfl (Nat.le_of_ble_eq_true rfl) ?_
      refine G_bipush h dX9_wordHere_335 kb_101 rfl ?_
      refine G_icmp_ne h dX9_wordHere_337 (tgt := 355) (by decide) rfl (fun c5 => ?_) (fun c5 => ?_)
      · have hf := it_f c5 hf
        refine G_iconst h dX9_wordHere_355 ki_m1 rfl ?_
        exact roI hR dX9_wordHere_356 hf
      · have hf := it_t c5 hf
        refine G_aload_n h dX9_wordHere_340 (i := 0) rfl rfl rfl ?_
        refine G_bipush h dX9_wordHere_341 kb_6 rfl ?_
        obtain ⟨x6, hx6, hf⟩ := bd hf
        refine cl_X9_122 h (ok_X9_letter hE _ h_v0 hx6) dX9_wordHere_343 h_v0 (as := [.int (6 : Int32)]) rfl rfl ⟨rfl, rfl, Nat.le_of_ble_eq_true rfl, Nat.le_of_ble_eq_true rfl⟩ rfl (Nat.le_of_ble_eq_true rfl) ?_
        refine G_bipush h dX9_wordHere_346 kb_115 rfl ?_
        refine G_icmp_ne h dX9_wordHere_348 (tgt := 355) (by decide) rfl (fun c7 => ?_) (fun c7 => ?_)
        · have hf := it_f c7 hf
          refine G_iconst h dX9_wordHere_355 ki_m1 rfl ?_
          exact roI hR dX9_wordHere_356 hf
        · have hf := it_t c7 hf
          refine G_iconst h dX9_wordHere_351 ki_5 rfl ?_
          refine G_goto h dX9_wordHere_352 (tgt := 356) (by decide) ?_
          exact roI hR dX9_wordHere_356 hf
def f_X9_wordHere_L134 (E : Env1) (M : Mem) (v0 : Nat) : Option (Int32) :=
  (f_X9_letter E M v0 (0 : Int32)).bind fun x1 =>
  if x1 = (107 : Int32) then (
    (f_X9_letter E M v0 (1 : Int32)).bind fun x3 =>
    if x3 = (110 : Int32) then (
      (f_X9_letter E M v0 (2 : Int32)).bind fun x5 =>
      if x5 = (111 : Int32) then (
        (f_X9_letter E M v0 (3 : Int32)).bind fun x7 =>
        if x7 = (119 : Int32) then (
          (f_X9_letter E M v0 (4 : Int32)).bind fun x9 =>
          if x9 = (115 : Int32) then (some (2 : Int32))
          else (some (-1 : Int32)))
        else (some (-1 : Int32)))
      else (some (-1 : Int32)))
    else (some (-1 : Int32)))
  else (some (-1 : Int32))
set_option maxRecDepth 100000 in
set_option maxHeartbeats 4000000 in
theorem o_X9_wordHere_L134 {X : Ctx} {l0 : Launch} {E : Env1} (h : Cx X l0 E RX9 cX9_wordHere (some .int) 3 rm_X9_wordHere) (hE : WF E) {M : Mem} {r : Int32} (hR : RetI X E cX9_wordHere r M) {v0 : Nat} (h_v0 : isK E v0 8) (hf : f_X9_wordHere_L134 E M v0 = some r) : G X E (0, 0) 134 [some (.ref v0), none, none] [] M := by
  unfold f_X9_wordHere_L134 at hf
  refine G_aload_n h dX9_wordHere_134 (i := 0) rfl rfl rfl ?_
  refine G_iconst h dX9_wordHere_135 ki_0 rfl ?_
  obtain ⟨x1, hx1, hf⟩ := bd hf
  refine cl_X9_122 h (ok_X9_letter hE _ h_v0 hx1) dX9_wordHere_136 h_v0 (as := [.int (0 : Int32)]) rfl rfl ⟨rfl, rfl, Nat.le_of_ble_eq_true rfl, Nat.le_of_ble_eq_true rfl⟩ rfl (Nat.le_of_ble_eq_true rfl) ?_
  refine G_bipush h dX9_wordHere_139 kb_107 rfl ?_
  refine G_icmp_ne h dX9_wordHere_141 (tgt := 188) (by decide) rfl (fun c2 => ?_) (fun c2 => ?_)
  · have hf := it_f c2 hf
    refine G_iconst h dX9_wordHere_188 ki_m1 rfl ?_
    exact roI hR dX9_wordHere_189 hf
  · have hf := it_t c2 hf
    refine G_aload_n h dX9_wordHere_144 (i := 0) rfl rfl rfl ?_
    refine G_iconst h dX9_wordHere_145 ki_1 rfl ?_
    obtain ⟨x3, hx3, hf⟩ := bd hf
    refine cl_X9_122 h (ok_X9_letter hE _ h_v0 hx3) dX9_wordHere_146 h_v0 (as := [.int (1 : Int32)]) rfl rfl ⟨rfl, rfl, Nat.le_of_ble_eq_true rfl, Nat.le_of_ble_eq_true rfl⟩ rfl (Nat.le_of_ble_eq_true rfl) ?_
    refine G_bipush h dX9_wordHere_149 kb_110 rfl ?_
    refine G_icmp_ne h dX9_wordHere_151 (tgt := 188) (by decide) rfl (fun c4 => ?_) (fun c4 => ?_)
    · have hf := it_f c4 hf
      refine G_iconst h dX9_wordHere_188 ki_m1 rfl ?_
      exact roI hR dX9_wordHere_189 hf
    · have hf := it_t c4 hf
      refine G_aload_n h dX9_wordHere_154 (i := 0) rfl rfl rfl ?_
      refine G_iconst h dX9_wordHere_155 ki_2 rfl ?_
      obtain ⟨x5, hx5, hf⟩ := bd hf
      refine cl_X9_122 h (ok_X9_letter hE _ h_v0 hx5) dX9_wordHere_156 h_v0 (as := [.int (2 : Int32)]) rfl rfl ⟨rfl, rfl, Nat.le_of_ble_eq_true rfl, Nat.le_of_ble_eq_true rfl⟩ rfl (Nat.le_of_ble_eq_true rfl) ?_
      refine G_bipush h dX9_wordHere_159 kb_111 rfl ?_
      refine G_icmp_ne h dX9_wordHere_161 (tgt := 188) (by decide) rfl (fun c6 => ?_) (fun c6 => ?_)
      · have hf := it_f c6 hf
        refine G_iconst h dX9_wordHere_188 ki_m1 rfl ?_
        exact roI hR dX9_wordHere_189 hf
      · have hf := it_t c6 hf
        refine G_aload_n h dX9_wordHere_164 (i := 0) rfl rfl rfl ?_
        refine G_iconst h dX9_wordHere_165 ki_3 rfl ?_
        obtain ⟨x7, hx7, hf⟩ := bd hf
        refine cl_X9_122 h (ok_X9_letter hE _ h_v0 hx7) dX9_wordHere_166 h_v0 (as := [.int (3 : Int32)]) rfl rfl ⟨rfl, rfl, Nat.le_of_ble_eq_true rfl, Nat.le_of_ble_eq_true rfl⟩ rfl (Nat.le_of_ble_eq_true rfl) ?_
        refine G_bipush h dX9_wordHere_169 kb_119 rfl ?_
        refine G_icmp_ne h dX9_wordHere_171 (tgt := 188) (by decide) rfl (fun c8 => ?_) (fun c8 => ?_)
        · have hf := it_f c8 hf
          refine G_iconst h dX9_wordHere_188 ki_m1 rfl ?_
          exact roI hR dX9_wordHere_189 hf
        · have hf := it_t c8 hf
          refine G_aload_n h dX9_wordHere_174 (i := 0) rfl rfl rfl ?_
          refine G_iconst h dX9_wordHere_175 ki_4 rfl ?_
          obtain ⟨x9, hx9, hf⟩ := bd hf
          refine cl_X9_122 h (ok_X9_letter hE _ h_v0 hx9) dX9_wordHere_176 h_v0 (as := [.int (4 : Int32)]) rfl rfl ⟨rfl, rfl, Nat.le_of_ble_eq_true rfl, Nat.le_of_ble_eq_true rfl⟩ rfl (Nat.le_of_ble_eq_true rfl) ?_
          refine G_bipush h dX9_wordHere_179 kb_115 rfl ?_
          refine G_icmp_ne h dX9_wordHere_181 (tgt := 188) (by decide) rfl (fun c10 => ?_) (fun c10 => ?_)
          · have hf := it_f c10 hf
            refine G_iconst h dX9_wordHere_188 ki_m1 rfl ?_
            exact roI hR dX9_wordHere_189 hf
          · have hf := it_t c10 hf
            refine G_iconst h dX9_wordHere_184 ki_2 rfl ?_
            refine G_goto h dX9_wordHere_185 (tgt := 189) (by decide) ?_
            exact roI hR dX9_wordHere_189 hf
def f_X9_wordHere (E : Env1) (M : Mem) (v0 : Nat) : Option (Int32) :=
  (f_X9_wordSize E M v0).bind fun x1 =>
  if x1 = (2 : Int32) then (
    (f_X9_letter E M v0 (0 : Int32)).bind fun x43 =>
    if x43 = (97 : Int32) then (
      (f_X9_letter E M v0 (1 : Int32)).bind fun x45 =>
      if x45 = (116 : Int32) then (some (4 : Int32))
      else (some (-1 : Int32)))
    else (some (-1 : Int32)))
  else (
    if x1 = (3 : Int32) then (
      (f_X9_letter E M v0 (0 : Int32)).bind fun x37 =>
      if x37 = (111 : Int32) then (
        (f_X9_letter E M v0 (1 : Int32)).bind fun x39 =>
        if x39 = (110 : Int32) then (
          (f_X9_letter E M v0 (2 : Int32)).bind fun x41 =>
          if x41 = (101 : Int32) then (some (1 : Int32))
          else (some (-1 : Int32)))
        else (some (-1 : Int32)))
      else (some (-1 : Int32)))
    else (
      if x1 = (5 : Int32) then (
        (f_X9_letter E M v0 (0 : Int32)).bind fun x27 =>
        if x27 = (104 : Int32) then (
          (f_X9_letter E M v0 (1 : Int32)).bind fun x29 =>
          if x29 = (111 : Int32) then (
            (f_X9_letter E M v0 (2 : Int32)).bind fun x31 =>
            if x31 = (117 : Int32) then (
              (f_X9_letter E M v0 (3 : Int32)).bind fun x33 =>
              if x33 = (115 : Int32) then (
                (f_X9_letter E M v0 (4 : Int32)).bind fun x35 =>
                if x35 = (101 : Int32) then (some (0 : Int32))
                else (f_X9_wordHere_L134 E M v0))
              else (f_X9_wordHere_L134 E M v0))
            else (f_X9_wordHere_L134 E M v0))
          else (f_X9_wordHere_L134 E M v0))
        else (f_X9_wordHere_L134 E M v0))
      else (
        if x1 = (6 : Int32) then (
          (f_X9_letter E M v0 (0 : Int32)).bind fun x15 =>
          if x15 = (99 : Int32) then (
            (f_X9_letter E M v0 (1 : Int32)).bind fun x17 =>
            if x17 = (97 : Int32) then (
              (f_X9_letter E M v0 (2 : Int32)).bind fun x19 =>
              if x19 = (114 : Int32) then (
                (f_X9_letter E M v0 (3 : Int32)).bind fun x21 =>
                if x21 = (112 : Int32) then (
                  (f_X9_letter E M v0 (4 : Int32)).bind fun x23 =>
                  if x23 = (101 : Int32) then (
                    (f_X9_letter E M v0 (5 : Int32)).bind fun x25 =>
                    if x25 = (116 : Int32) then (some (3 : Int32))
                    else (some (-1 : Int32)))
                  else (some (-1 : Int32)))
                else (some (-1 : Int32)))
              else (some (-1 : Int32)))
            else (some (-1 : Int32)))
          else (some (-1 : Int32)))
        else (
          if x1 = (7 : Int32) then (
            (f_X9_letter E M v0 (0 : Int32)).bind fun x7 =>
            if x7 = (109 : Int32) then (
              (f_X9_letter E M v0 (1 : Int32)).bind fun x9 =>
              if x9 = (105 : Int32) then (
                (f_X9_letter E M v0 (2 : Int32)).bind fun x11 =>
                if x11 = (110 : Int32) then (
                  (f_X9_letter E M v0 (3 : Int32)).bind fun x13 =>
                  if x13 = (117 : Int32) then (f_X9_wordHere_L315 E M v0 (1 : Int32))
                  else (f_X9_wordHere_L315 E M v0 (0 : Int32)))
                else (f_X9_wordHere_L315 E M v0 (0 : Int32)))
              else (f_X9_wordHere_L315 E M v0 (0 : Int32)))
            else (f_X9_wordHere_L315 E M v0 (0 : Int32)))
          else (some (-1 : Int32))))))
set_option maxRecDepth 100000 in
set_option maxHeartbeats 4000000 in
theorem ok_X9_wordHere {E : Env1} (hE : WF E) (l0 : Launch) {M : Mem} {v0 : Nat} {r : Int32} (h0 : isK E v0 8) (hf : f_X9_wordHere E M v0 = some r) : Met l0 yX9_wordHere (wsA yX9_wordHere cX9_wordHere 3 (some .int)) rm_X9_wordHere (CP E M [.ref v0]) (CQi E r M) 0 0 (eA E) := by
  unfold f_X9_wordHere at hf
  refine mtI l0 (by decide +kernel) (Nat.le_of_ble_eq_true rfl) (L0 := [some (.ref v0), none, none]) rfl (fun X h hR => ?_)
  refine G_aload_n h dX9_wordHere_0 (i := 0) rfl rfl rfl ?_
  obtain ⟨x1, hx1, hf⟩ := bd hf
  refine cl_X9_119 h (ok_X9_wordSize hE _ h0 hx1) dX9_wordHere_1 h0 (as := []) rfl rfl ⟨rfl, rfl, Nat.le_of_ble_eq_true rfl, Nat.le_of_ble_eq_true rfl⟩ rfl (Nat.le_of_ble_eq_true rfl) ?_
  refine G_istore_n h dX9_wordHere_4 (i := 1) rfl (by decide) (L' := [some (.ref v0), some (.int x1), none]) rfl rfl ?_
  refine G_iload_n h dX9_wordHere_5 (i := 1) rfl rfl rfl ?_
  refine G_iconst h dX9_wordHere_6 ki_2 rfl ?_
  refine G_icmp_ne h dX9_wordHere_7 (tgt := 36) (by decide) rfl (fun c2 => ?_) (fun c2 => ?_)
  · have hf := it_f c2 hf
    refine G_iload_n h dX9_wordHere_36 (i := 1) rfl rfl rfl ?_
    refine G_iconst h dX9_wordHere_37 ki_3 rfl ?_
    refine G_icmp_ne h dX9_wordHere_38 (tgt := 77) (by decide) rfl (fun c3 => ?_) (fun c3 => ?_)
    · have hf := it_f c3 hf
      refine G_iload_n h dX9_wordHere_77 (i := 1) rfl rfl rfl ?_
      refine G_iconst h dX9_wordHere_78 ki_5 rfl ?_
      refine G_icmp_ne h dX9_wordHere_79 (tgt := 190) (by decide) rfl (fun c4 => ?_) (fun c4 => ?_)
      · have hf := it_f c4 hf
        refine G_iload_n h dX9_wordHere_190 (i := 1) rfl rfl rfl ?_
        refine G_bipush h dX9_wordHere_191 kb_6 rfl ?_
        refine G_icmp_ne h dX9_wordHere_193 (tgt := 262) (by decide) rfl (fun c5 => ?_) (fun c5 => ?_)
        · have hf := it_f c5 hf
          refine G_iload_n h dX9_wordHere_262 (i := 1) rfl rfl rfl ?_
          refine G_bipush h dX9_wordHere_263 kb_7 rfl ?_
          refine G_icmp_eq h dX9_wordHere_265 (tgt := 270) (by decide) rfl (fun c6 => ?_) (fun c6 => ?_)
          · have hf := it_t c6 hf
            refine G_aload_n h dX9_wordHere_270 (i := 0) rfl rfl rfl ?_
            refine G_iconst h dX9_wordHere_271 ki_0 rfl ?_
            obtain ⟨x7, hx7, hf⟩ := bd hf
            refine cl_X9_122 h (ok_X9_letter hE _ h0 hx7) dX9_wordHere_272 h0 (as := [.int (0 : Int32)]) rfl rfl ⟨rfl, rfl, Nat.le_of_ble_eq_true rfl, Nat.le_of_ble_eq_true rfl⟩ rfl (Nat.le_of_ble_eq_true rfl) ?_
            refine G_bipush h dX9_wordHere_275 kb_109 rfl ?_
            refine G_icmp_ne h dX9_wordHere_277 (tgt := 314) (by decide) rfl (fun c8 => ?_) (fun c8 => ?_)
            · have hf := it_f c8 hf
              refine G_iconst h dX9_wordHere_314 ki_0 rfl ?_
              refine G_mskL [true, false, false] (L' := [some (.ref v0), none, none]) rfl ?_
              exact o_X9_wordHere_L315 h hE hR h0 (Or.inl rfl) hf
            · have hf := it_t c8 hf
              refine G_aload_n h dX9_wordHere_280 (i := 0) rfl rfl rfl ?_
              refine G_iconst h dX9_wordHere_281 ki_1 rfl ?_
              obtain ⟨x9, hx9, hf⟩ := bd hf
              refine cl_X9_122 h (ok_X9_letter hE _ h0 hx9) dX9_wordHere_282 h0 (as := [.int (1 : Int32)]) rfl rfl ⟨rfl, rfl, Nat.le_of_ble_eq_true rfl, Nat.le_of_ble_eq_true rfl⟩ rfl (Nat.le_of_ble_eq_true rfl) ?_
              refine G_bipush h dX9_wordHere_285 kb_105 rfl ?_
              refine G_icmp_ne h dX9_wordHere_287 (tgt := 314) (by decide) rfl (fun c10 => ?_) (fun c10 => ?_)
              · have hf := it_f c10 hf
                refine G_iconst h dX9_wordHere_314 ki_0 rfl ?_
                refine G_mskL [true, false, false] (L' := [some (.ref v0), none, none]) rfl ?_
                exact o_X9_wordHere_L315 h hE hR h0 (Or.inl rfl) hf
              · have hf := it_t c10 hf
                refine G_aload_n h dX9_wordHere_290 (i := 0) rfl rfl rfl ?_
                refine G_iconst h dX9_wordHere_291 ki_2 rfl ?_
                obtain ⟨x11, hx11, hf⟩ := bd hf
                refine cl_X9_122 h (ok_X9_letter hE _ h0 hx11) dX9_wordHere_292 h0 (as := [.int (2 : Int32)]) rfl rfl ⟨rfl, rfl, Nat.le_of_ble_eq_true rfl, Nat.le_of_ble_eq_true rfl⟩ rfl (Nat.le_of_ble_eq_true rfl) ?_
                refine G_bipush h dX9_wordHere_295 kb_110 rfl ?_
                refine G_icmp_ne h dX9_wordHere_297 (tgt := 314) (by decide) rfl (fun c12 => ?_) (fun c12 => ?_)
                · have hf := it_f c12 hf
                  refine G_iconst h dX9_wordHere_314 ki_0 rfl ?_
                  refine G_mskL [true, false, false] (L' := [some (.ref v0), none, none]) rfl ?_
                  exact o_X9_wordHere_L315 h hE hR h0 (Or.inl rfl) hf
                · have hf := it_t c12 hf
                  refine G_aload_n h dX9_wordHere_300 (i := 0) rfl rfl rfl ?_
                  refine G_iconst h dX9_wordHere_301 ki_3 rfl ?_
                  obtain ⟨x13, hx13, hf⟩ := bd hf
                  refine cl_X9_122 h (ok_X9_letter hE _ h0 hx13) dX9_wordHere_302 h0 (as := [.int (3 : Int32)]) rfl rfl ⟨rfl, rfl, Nat.le_of_ble_eq_true rfl, Nat.le_of_ble_eq_true rfl⟩ rfl (Nat.le_of_ble_eq_true rfl) ?_
                  refine G_bipush h dX9_wordHere_305 kb_117 rfl ?_
                  refine G_icmp_ne h dX9_wordHere_307 (tgt := 314) (by decide) rfl (fun c14 => ?_) (fun c14 => ?_)
                  · have hf := it_f c14 hf
                    refine G_iconst h dX9_wordHere_314 ki_0 rfl ?_
                    refine G_mskL [true, false, false] (L' := [some (.ref v0), none, none]) rfl ?_
                    exact o_X9_wordHere_L315 h hE hR h0 (Or.inl rfl) hf
                  · have hf := it_t c14 hf
                    refine G_iconst h dX9_wordHere_310 ki_1 rfl ?_
                    refine G_goto h dX9_wordHere_311 (tgt := 315) (by decide) ?_
                    refine G_mskL [true, false, false] (L' := [some (.ref v0), none, none]) rfl ?_
                    exact o_X9_wordHere_L315 h hE hR h0 (Or.inr rfl) hf
          · have hf := it_f c6 hf
            refine G_iconst h dX9_wordHere_268 ki_m1 rfl ?_
            exact roI hR dX9_wordHere_269 hf
        · have hf := it_t c5 hf
          refine G_aload_n h dX9_wordHere_196 (i := 0) rfl rfl rfl ?_
          refine G_iconst h dX9_wordHere_197 ki_0 rfl ?_
          obtain ⟨x15, hx15, hf⟩ := bd hf
          refine cl_X9_122 h (ok_X9_letter hE _ h0 hx15) dX9_wordHere_198 h0 (as := [.int (0 : Int32)]) rfl rfl ⟨rfl, rfl, Nat.le_of_ble_eq_true rfl, Nat.le_of_ble_eq_true rfl⟩ rfl (Nat.le_of_ble_eq_true rfl) ?_
          refine G_bipush h dX9_wordHere_201 kb_99 rfl ?_
          refine G_icmp_ne h dX9_wordHere_203 (tgt := 260) (by decide) rfl (fun c16 => ?_) (fun c16 => ?_)
          · have hf := it_f c16 hf
            refine G_iconst h dX9_wordHere_260 ki_m1 rfl ?_
            exact roI hR dX9_wordHere_261 hf
          · have hf := it_t c16 hf
            refine G_aload_n h dX9_wordHere_206 (i := 0) rfl rfl rfl ?_
            refine G_iconst h dX9_wordHere_207 ki_1 rfl ?_
            obtain ⟨x17, hx17, hf⟩ := bd hf
            refine cl_X9_122 h (ok_X9_letter hE _ h0 hx17) dX9_wordHere_208 h0 (as := [.int (1 : Int32)]) rfl rfl ⟨rfl, rfl, Nat.le_of_ble_eq_true rfl, Nat.le_of_ble_eq_true rfl⟩ rfl (Nat.le_of_ble_eq_true rfl) ?_
            refine G_bipush h dX9_wordHere_211 kb_97 rfl ?_
            refine G_icmp_ne h dX9_wordHere_213 (tgt := 260) (by decide) rfl (fun c18 => ?_) (fun c18 => ?_)
            · have hf := it_f c18 hf
              refine G_iconst h dX9_wordHere_260 ki_m1 rfl ?_
              exact roI hR dX9_wordHere_261 hf
            · have hf := it_t c18 hf
              refine G_aload_n h dX9_wordHere_216 (i := 0) rfl rfl rfl ?_
              refine G_iconst h dX9_wordHere_217 ki_2 rfl ?_
              obtain ⟨x19, hx19, hf⟩ := bd hf
              refine cl_X9_122 h (ok_X9_letter hE _ h0 hx19) dX9_wordHere_218 h0 (as := [.int (2 : Int32)]) rfl rfl ⟨rfl, rfl, Nat.le_of_ble_eq_true rfl, Nat.le_of_ble_eq_true rfl⟩ rfl (Nat.le_of_ble_eq_true rfl) ?_
              refine G_bipush h dX9_wordHere_221 kb_114 rfl ?_
              refine G_icmp_ne h dX9_wordHere_223 (tgt := 260) (by decide) rfl (fun c20 => ?_) (fun c20 => ?_)
              · have hf := it_f c20 hf
                refine G_iconst h dX9_wordHere_260 ki_m1 rfl ?_
                exact roI hR dX9_wordHere_261 hf
              · have hf := it_t c20 hf
                refine G_aload_n h dX9_wordHere_226 (i := 0) rfl rfl rfl ?_
                refine G_iconst h dX9_wordHere_227 ki_3 rfl ?_
                obtain ⟨x21, hx21, hf⟩ := bd hf
                refine cl_X9_122 h (ok_X9_letter hE _ h0 hx21) dX9_wordHere_228 h0 (as := [.int (3 : Int32)]) rfl rfl ⟨rfl, rfl, Nat.le_of_ble_eq_true rfl, Nat.le_of_ble_eq_true rfl⟩ rfl (Nat.le_of_ble_eq_true rfl) ?_
                refine G_bipush h dX9_wordHere_231 kb_112 rfl ?_
                refine G_icmp_ne h dX9_wordHere_233 (tgt := 260) (by decide) rfl (fun c22 => ?_) (fun c22 => ?_)
                · have hf := it_f c22 hf
                  refine G_iconst h dX9_wordHere_260 ki_m1 rfl ?_
                  exact roI hR dX9_wordHere_261 hf
                · have hf := it_t c22 hf
                  refine G_aload_n h dX9_wordHere_236 (i := 0) rfl rfl rfl ?_
                  refine G_iconst h dX9_wordHere_237 ki_4 rfl ?_
                  obtain ⟨x23, hx23, hf⟩ := bd hf
                  refine cl_X9_122 h (ok_X9_letter hE _ h0 hx23) dX9_wordHere_238 h0 (as := [.int (4 : Int32)]) rfl rfl ⟨rfl, rfl, Nat.le_of_ble_eq_true rfl, Nat.le_of_ble_eq_true rfl⟩ rfl (Nat.le_of_ble_eq_true rfl) ?_
                  refine G_bipush h dX9_wordHere_241 kb_101 rfl ?_
                  refine G_icmp_ne h dX9_wordHere_243 (tgt := 260) (by decide) rfl (fun c24 => ?_) (fun c24 => ?_)
                  · have hf := it_f c24 hf
                    refine G_iconst h dX9_wordHere_260 ki_m1 rfl ?_
                    exact roI hR dX9_wordHere_261 hf
                  · have hf := it_t c24 hf
                    refine G_aload_n h dX9_wordHere_246 (i := 0) rfl rfl rfl ?_
                    refine G_iconst h dX9_wordHere_247 ki_5 rfl ?_
                    obtain ⟨x25, hx25, hf⟩ := bd hf
                    refine cl_X9_122 h (ok_X9_letter hE _ h0 hx25) dX9_wordHere_248 h0 (as := [.int (5 : Int32)]) rfl rfl ⟨rfl, rfl, Nat.le_of_ble_eq_true rfl, Nat.le_of_ble_eq_true rfl⟩ rfl (Nat.le_of_ble_eq_true rfl) ?_
                    refine G_bipush h dX9_wordHere_251 kb_116 rfl ?_
                    refine G_icmp_ne h dX9_wordHere_253 (tgt := 260) (by decide) rfl (fun c26 => ?_) (fun c26 => ?_)
                    · have hf := it_f c26 hf
                      refine G_iconst h dX9_wordHere_260 ki_m1 rfl ?_
                      exact roI hR dX9_wordHere_261 hf
                    · have hf := it_t c26 hf
                      refine G_iconst h dX9_wordHere_256 ki_3 rfl ?_
                      refine G_goto h dX9_wordHere_257 (tgt := 261) (by decide) ?_
                      exact roI hR dX9_wordHere_261 hf
      · have hf := it_t c4 hf
        refine G_aload_n h dX9_wordHere_82 (i := 0) rfl rfl rfl ?_
        refine G_iconst h dX9_wordHere_83 ki_0 rfl ?_
        obtain ⟨x27, hx27, hf⟩ := bd hf
        refine cl_X9_122 h (ok_X9_letter hE _ h0 hx27) dX9_wordHere_84 h0 (as := [.int (0 : Int32)]) rfl rfl ⟨rfl, rfl, Nat.le_of_ble_eq_true rfl, Nat.le_of_ble_eq_true rfl⟩ rfl (Nat.le_of_ble_eq_true rfl) ?_
        refine G_bipush h dX9_wordHere_87 kb_104 rfl ?_
        refine G_icmp_ne h dX9_wordHere_89 (tgt := 134) (by decide) rfl (fun c28 => ?_) (fun c28 => ?_)
        · have hf := it_f c28 hf
          refine G_mskL [true, false, false] (L' := [some (.ref v0), none, none]) rfl ?_
          exact o_X9_wordHere_L134 h hE hR h0 hf
        · have hf := it_t c28 hf
          refine G_aload_n h dX9_wordHere_92 (i := 0) rfl rfl rfl ?_
          refine G_iconst h dX9_wordHere_93 ki_1 rfl ?_
          obtain ⟨x29, hx29, hf⟩ := bd hf
          refine cl_X9_122 h (ok_X9_letter hE _ h0 hx29) dX9_wordHere_94 h0 (as := [.int (1 : Int32)]) rfl rfl ⟨rfl, rfl, Nat.le_of_ble_eq_true rfl, Nat.le_of_ble_eq_true rfl⟩ rfl (Nat.le_of_ble_eq_true rfl) ?_
          refine G_bipush h dX9_wordHere_97 kb_111 rfl ?_
          refine G_icmp_ne h dX9_wordHere_99 (tgt := 134) (by decide) rfl (fun c30 => ?_) (fun c30 => ?_)
          · have hf := it_f c30 hf
            refine G_mskL [true, false, false] (L' := [some (.ref v0), none, none]) rfl ?_
            exact o_X9_wordHere_L134 h hE hR h0 hf
          · have hf := it_t c30 hf
            refine G_aload_n h dX9_wordHere_102 (i := 0) rfl rfl rfl ?_
            refine G_iconst h dX9_wordHere_103 ki_2 rfl ?_
            obtain ⟨x31, hx31, hf⟩ := bd hf
            refine cl_X9_122 h (ok_X9_letter hE _ h0 hx31) dX9_wordHere_104 h0 (as := [.int (2 : Int32)]) rfl rfl ⟨rfl, rfl, Nat.le_of_ble_eq_true rfl, Nat.le_of_ble_eq_true rfl⟩ rfl (Nat.le_of_ble_eq_true rfl) ?_
            refine G_bipush h dX9_wordHere_107 kb_117 rfl ?_
            refine G_icmp_ne h dX9_wordHere_109 (tgt := 134) (by decide) rfl (fun c32 => ?_) (fun c32 => ?_)
            · have hf := it_f c32 hf
              refine G_mskL [true, false, false] (L' := [some (.ref v0), none, none]) rfl ?_
              exact o_X9_wordHere_L134 h hE hR h0 hf
            · have hf := it_t c32 hf
              refine G_aload_n h dX9_wordHere_112 (i := 0) rfl rfl rfl ?_
              refine G_iconst h dX9_wordHere_113 ki_3 rfl ?_
              obtain ⟨x33, hx33, hf⟩ := bd hf
              refine cl_X9_122 h (ok_X9_letter hE _ h0 hx33) dX9_wordHere_114 h0 (as := [.int (3 : Int32)]) rfl rfl ⟨rfl, rfl, Nat.le_of_ble_eq_true rfl, Nat.le_of_ble_eq_true rfl⟩ rfl (Nat.le_of_ble_eq_true rfl) ?_
              refine G_bipush h dX9_wordHere_117 kb_115 rfl ?_
              refine G_icmp_ne h dX9_wordHere_119 (tgt := 134) (by decide) rfl (fun c34 => ?_) (fun c34 => ?_)
              · have hf := it_f c34 hf
                refine G_mskL [true, false, false] (L' := [some (.ref v0), none, none]) rfl ?_
                exact o_X9_wordHere_L134 h hE hR h0 hf
              · have hf := it_t c34 hf
                refine G_aload_n h dX9_wordHere_122 (i := 0) rfl rfl rfl ?_
                refine G_iconst h dX9_wordHere_123 ki_4 rfl ?_
                obtain ⟨x35, hx35, hf⟩ := bd hf
                refine cl_X9_122 h (ok_X9_letter hE _ h0 hx35) dX9_wordHere_124 h0 (as := [.int (4 : Int32)]) rfl rfl ⟨rfl, rfl, Nat.le_of_ble_eq_true rfl, Nat.le_of_ble_eq_true rfl⟩ rfl (Nat.le_of_ble_eq_true rfl) ?_
                refine G_bipush h dX9_wordHere_127 kb_101 rfl ?_
                refine G_icmp_ne h dX9_wordHere_129 (tgt := 134) (by decide) rfl (fun c36 => ?_) (fun c36 => ?_)
                · have hf := it_f c36 hf
                  refine G_mskL [true, false, false] (L' := [some (.ref v0), none, none]) rfl ?_
                  exact o_X9_wordHere_L134 h hE hR h0 hf
                · have hf := it_t c36 hf
                  refine G_iconst h dX9_wordHere_132 ki_0 rfl ?_
                  exact roI hR dX9_wordHere_133 hf
    · have hf := it_t c3 hf
      refine G_aload_n h dX9_wordHere_41 (i := 0) rfl rfl rfl ?_
      refine G_iconst h dX9_wordHere_42 ki_0 rfl ?_
      obtain ⟨x37, hx37, hf⟩ := bd hf
      refine cl_X9_122 h (ok_X9_letter hE _ h0 hx37) dX9_wordHere_43 h0 (as := [.int (0 : Int32)]) rfl rfl ⟨rfl, rfl, Nat.le_of_ble_eq_true rfl, Nat.le_of_ble_eq_true rfl⟩ rfl (Nat.le_of_ble_eq_true rfl) ?_
      refine G_bipush h dX9_wordHere_46 kb_111 rfl ?_
      refine G_icmp_ne h dX9_wordHere_48 (tgt := 75) (by decide) rfl (fun c38 => ?_) (fun c38 => ?_)
      · have hf := it_f c38 hf
        refine G_iconst h dX9_wordHere_75 ki_m1 rfl ?_
        exact roI hR dX9_wordHere_76 hf
      · have hf := it_t c38 hf
        refine G_aload_n h dX9_wordHere_51 (i := 0) rfl rfl rfl ?_
        refine G_iconst h dX9_wordHere_52 ki_1 rfl ?_
        obtain ⟨x39, hx39, hf⟩ := bd hf
        refine cl_X9_122 h (ok_X9_letter hE _ h0 hx39) dX9_wordHere_53 h0 (as := [.int (1 : Int32)]) rfl rfl ⟨rfl, rfl, Nat.le_of_ble_eq_true rfl, Nat.le_of_ble_eq_true rfl⟩ rfl (Nat.le_of_ble_eq_true rfl) ?_
        refine G_bipush h dX9_wordHere_56 kb_110 rfl ?_
        refine G_icmp_ne h dX9_wordHere_58 (tgt := 75) (by decide) rfl (fun c40 => ?_) (fun c40 => ?_)
        · have hf := it_f c40 hf
          refine G_iconst h dX9_wordHere_75 ki_m1 rfl ?_
          exact roI hR dX9_wordHere_76 hf
        · have hf := it_t c40 hf
          refine G_aload_n h dX9_wordHere_61 (i := 0) rfl rfl rfl ?_
          refine G_iconst h dX9_wordHere_62 ki_2 rfl ?_
          obtain ⟨x41, hx41, hf⟩ := bd hf
          refine cl_X9_122 h (ok_X9_letter hE _ h0 hx41) dX9_wordHere_63 h0 (as := [.int (2 : Int32)]) rfl rfl ⟨rfl, rfl, Nat.le_of_ble_eq_true rfl, Nat.le_of_ble_eq_true rfl⟩ rfl (Nat.le_of_ble_eq_true rfl) ?_
          refine G_bipush h dX9_wordHere_66 kb_101 rfl ?_
          refine G_icmp_ne h dX9_wordHere_68 (tgt := 75) (by decide) rfl (fun c42 => ?_) (fun c42 => ?_)
          · have hf := it_f c42 hf
            refine G_iconst h dX9_wordHere_75 ki_m1 rfl ?_
            exact roI hR dX9_wordHere_76 hf
          · have hf := it_t c42 hf
            refine G_iconst h dX9_wordHere_71 ki_1 rfl ?_
            refine G_goto h dX9_wordHere_72 (tgt := 76) (by decide) ?_
            exact roI hR dX9_wordHere_76 hf
  · have hf := it_t c2 hf
    refine G_aload_n h dX9_wordHere_10 (i := 0) rfl rfl rfl ?_
    refine G_iconst h dX9_wordHere_11 ki_0 rfl ?_
    obtain ⟨x43, hx43, hf⟩ := bd hf
    refine cl_X9_122 h (ok_X9_letter hE _ h0 hx43) dX9_wordHere_12 h0 (as := [.int (0 : Int32)]) rfl rfl ⟨rfl, rfl, Nat.le_of_ble_eq_true rfl, Nat.le_of_ble_eq_true rfl⟩ rfl (Nat.le_of_ble_eq_true rfl) ?_
    refine G_bipush h dX9_wordHere_15 kb_97 rfl ?_
    refine G_icmp_ne h dX9_wordHere_17 (tgt := 34) (by decide) rfl (fun c44 => ?_) (fun c44 => ?_)
    · have hf := it_f c44 hf
      refine G_iconst h dX9_wordHere_34 ki_m1 rfl ?_
      exact roI hR dX9_wordHere_35 hf
    · have hf := it_t c44 hf
      refine G_aload_n h dX9_wordHere_20 (i := 0) rfl rfl rfl ?_
      refine G_iconst h dX9_wordHere_21 ki_1 rfl ?_
      obtain ⟨x45, hx45, hf⟩ := bd hf
      refine cl_X9_122 h (ok_X9_letter hE _ h0 hx45) dX9_wordHere_22 h0 (as := [.int (1 : Int32)]) rfl rfl ⟨rfl, rfl, Nat.le_of_ble_eq_true rfl, Nat.le_of_ble_eq_true rfl⟩ rfl (Nat.le_of_ble_eq_true rfl) ?_
      refine G_bipush h dX9_wordHere_25 kb_116 rfl ?_
      refine G_icmp_ne h dX9_wordHere_27 (tgt := 34) (by decide) rfl (fun c46 => ?_) (fun c46 => ?_)
      · have hf := it_f c46 hf
        refine G_iconst h dX9_wordHere_34 ki_m1 rfl ?_
        exact roI hR dX9_wordHere_35 hf
      · have hf := it_t c46 hf
        refine G_iconst h dX9_wordHere_30 ki_4 rfl ?_
        refine G_goto h dX9_wordHere_31 (tgt := 35) (by decide) ?_
        exact roI hR dX9_wordHere_35 hf
def rm_X9_readsFirst : Room := { frames := 4, cells := 0, slots := 0, locals := 85 }
def b_X9_readsFirst_L32 (E : Env1) (k32 : Mem → Nat → Int32 → (Option (Int32 × Mem))) (M : Mem) (v0 : Nat) (v1 : Int32) : Option (Int32 × Mem) :=
  if (8 : Int32) ≤ v1 then (
    (f_X9_ends E M v0).bind fun x3 =>
    some (x3.1, x3.2))
  else (
    (f_X9_number E M v0 (0 : Int32) (5 : Int32)).bind fun x5 =>
    if x5.1 = 0 then (some ((0 : Int32), x5.2))
    else (gd v1 8 (k32 (wi x5.2 (rr E v0 11) (ix v1) (mi x5.2 v0 18)) v0 (v1 + 1))))
set_option maxRecDepth 100000 in
set_option maxHeartbeats 4000000 in
theorem ob_X9_readsFirst_L32 {X : Ctx} {l0 : Launch} {E : Env1} (h : Cx X l0 E RX9 cX9_readsFirst (some .boolean) 2 rm_X9_readsFirst) (hE : WF E) {M' : Mem} {r : Int32} (hR : RetZ X E cX9_readsFirst r M') {k32 : Mem → Nat → Int32 → (Option (Int32 × Mem))} (hk32 : ∀ (M : Mem) (v0 : Nat) (v1 : Int32), isK E v0 8 → k32 M v0 v1 = some (r, M') → G X E (0, 0) 32 [some (.ref v0), some (.int v1)] [] M) {M : Mem} {v0 : Nat} {v1 : Int32} (h_v0 : isK E v0 8) (hf : b_X9_readsFirst_L32 E k32 M v0 v1 = some (r, M')) : G X E (0, 0) 32 [some (.ref v0), some (.int v1)] [] M := by
  unfold b_X9_readsFirst_L32 at hf
  refine G_iload_n h dX9_readsFirst_32 (i := 1) rfl rfl rfl ?_
  refine G_bipush h dX9_readsFirst_33 kb_8 rfl ?_
  refine G_icmp_ge h dX9_readsFirst_35 (tgt := 65) (by decide) rfl (fun c1 => ?_) (fun c1 => ?_)
  · have hf := it_t c1 hf
    refine G_aload_n h dX9_readsFirst_65 (i := 0) rfl rfl rfl ?_
    obtain ⟨x3, hx3, hf⟩ := bd hf
    refine cl_X9_139 h (ok_X9_ends hE _ h_v0 hx3) dX9_readsFirst_66 h_v0 (as := []) rfl rfl ⟨rfl, rfl, Nat.le_of_ble_eq_true rfl, Nat.le_of_ble_eq_true rfl⟩ rfl (Nat.le_of_ble_eq_true rfl) (fun z2 => ?_)
    exact pwZ hR dX9_readsFirst_69 z2 hf
  · have hf := it_f c1 hf
    refine G_aload_n h dX9_readsFirst_38 (i := 0) rfl rfl rfl ?_
    refine G_iconst h dX9_readsFirst_39 ki_0 rfl ?_
    refine G_iconst h dX9_readsFirst_40 ki_5 rfl ?_
    obtain ⟨x5, hx5, hf⟩ := bd hf
    refine cl_X9_135 h (ok_X9_number hE _ h_v0 hx5) dX9_readsFirst_41 h_v0 (as := [.int (0 : Int32), .int (5 : Int32)]) rfl rfl ⟨rfl, rfl, Nat.le_of_ble_eq_true rfl, Nat.le_of_ble_eq_true rfl⟩ rfl (Nat.le_of_ble_eq_true rfl) (fun z4 => ?_)
    refine G_if_ne h dX9_readsFirst_44 (tgt := 49) (by decide) rfl (fun c6 => ?_) (fun c6 => ?_)
    · have hf := it_f c6 hf
      refine G_aload_n h dX9_readsFirst_49 (i := 0) rfl rfl rfl ?_
      refine gf_X9_25 h hE dX9_readsFirst_50 h_v0 rfl ?_
      refine G_iload_n h dX9_readsFirst_53 (i := 1) rfl rfl rfl ?_
      refine G_aload_n h dX9_readsFirst_54 (i := 0) rfl rfl rfl ?_
      refine gf_X9_132 h dX9_readsFirst_55 h_v0 rfl ?_
      obtain ⟨g7, hf⟩ := gd_some hf
      refine G_iast h dX9_readsFirst_58 ((w_8_11 hE h_v0).2) g7 (jx := (ix v1)) rfl rfl ?_
      refine G_iinc2 h dX9_readsFirst_59 rfl ki_1 (by decide) (L' := [some (.ref v0), some (.int (v1 + 1))]) rfl rfl ?_
      refine G_goto h dX9_readsFirst_62 (tgt := 32) (by decide) ?_
      exact hk32 _ _ _ h_v0 hf
    · have hf := it_t c6 hf
      refine G_iconst h dX9_readsFirst_47 ki_0 rfl ?_
      exact pwZ hR dX9_readsFirst_48 (Or.inl rfl) hf
def f_X9_readsFirst_L32 (E : Env1) : Nat → Mem → Nat → Int32 → (Option (Int32 × Mem))
  | 0 => fun _ _ _ => none
  | n + 1 => b_X9_readsFirst_L32 E (f_X9_readsFirst_L32 E n)
theorem o_X9_readsFirst_L32 {X : Ctx} {l0 : Launch} {E : Env1} (h : Cx X l0 E RX9 cX9_readsFirst (some .boolean) 2 rm_X9_readsFirst) (hE : WF E) {M' : Mem} {r : Int32} (hR : RetZ X E cX9_readsFirst r M') : ∀ (n : Nat) (M : Mem) (v0 : Nat) (v1 : Int32), isK E v0 8 → f_X9_readsFirst_L32 E n M v0 v1 = some (r, M') → G X E (0, 0) 32 [some (.ref v0), some (.int v1)] [] M := by
  intro n
  induction n with
  | zero =>
    intro _ _ _ a0 hf
    have h0 : (none : Option (Int32 × Mem)) = some (r, M') := hf
    cases h0
  | succ n ih =>
    intro _ _ _ a0 hf
    exact ob_X9_readsFirst_L32 h hE hR  ih a0 hf
def f_X9_readsFirst (E : Env1) (M : Mem) (v0 : Nat) : Option (Int32 × Mem) :=
  (f_X9_skip E M v0).bind fun x1 =>
  (f_X9_wordHere E x1 v0).bind fun x2 =>
  if x2 = 0 then (
    (f_X9_wordSize E x1 v0).bind fun x4 =>
    (f_X9_begin E (wi x1 v0 17 ((mi x1 v0 17) + x4)) v0).bind fun x5 =>
    f_X9_readsFirst_L32 E FU x5 v0 (0 : Int32))
  else (some ((0 : Int32), x1))
set_option maxRecDepth 100000 in
set_option maxHeartbeats 4000000 in
theorem ok_X9_readsFirst {E : Env1} (hE : WF E) (l0 : Launch) {M : Mem} {M' : Mem} {v0 : Nat} {r : Int32} (h0 : isK E v0 8) (hf : f_X9_readsFirst E M v0 = some (r, M')) : Met l0 yX9_readsFirst (wsA yX9_readsFirst cX9_readsFirst 2 (some .boolean)) rm_X9_readsFirst (CP E M [.ref v0]) (CQz E r M') 0 0 (eA E) := by
  unfold f_X9_readsFirst at hf
  refine mtZ l0 (by decide +kernel) (Nat.le_of_ble_eq_true rfl) (L0 := [some (.ref v0), none]) rfl (fun X h hR => ?_)
  refine G_aload_n h dX9_readsFirst_0 (i := 0) rfl rfl rfl ?_
  obtain ⟨x1, hx1, hf⟩ := bd hf
  refine cl_X9_126 h (ok_X9_skip hE _ h0 hx1) dX9_readsFirst_1 h0 (as := []) rfl rfl ⟨rfl, rfl, Nat.le_of_ble_eq_true rfl, Nat.le_of_ble_eq_true rfl⟩ rfl (Nat.le_of_ble_eq_true rfl) ?_
  refine G_aload_n h dX9_readsFirst_4 (i := 0) rfl rfl rfl ?_
  obtain ⟨x2, hx2, hf⟩ := bd hf
  refine cl_X9_147 h (ok_X9_wordHere hE _ h0 hx2) dX9_readsFirst_5 h0 (as := []) rfl rfl ⟨rfl, rfl, Nat.le_of_ble_eq_true rfl, Nat.le_of_ble_eq_true rfl⟩ rfl (Nat.le_of_ble_eq_true rfl) ?_
  refine G_if_eq h dX9_readsFirst_8 (tgt := 13) (by decide) rfl (fun c3 => ?_) (fun c3 => ?_)
  · have hf := it_t c3 hf
    refine G_aload_n h dX9_readsFirst_13 (i := 0) rfl rfl rfl ?_
    refine G_dup h dX9_readsFirst_14 rfl rfl ?_
    refine gf_X9_109 h dX9_readsFirst_15 h0 rfl ?_
    refine G_aload_n h dX9_readsFirst_18 (i := 0) rfl rfl rfl ?_
    obtain ⟨x4, hx4, hf⟩ := bd hf
    refine cl_X9_119 h (ok_X9_wordSize hE _ h0 hx4) dX9_readsFirst_19 h0 (as := []) rfl rfl ⟨rfl, rfl, Nat.le_of_ble_eq_true rfl, Nat.le_of_ble_eq_true rfl⟩ rfl (Nat.le_of_ble_eq_true rfl) ?_
    refine G_iadd h dX9_readsFirst_22 rfl ?_
    refine pf_X9_109 h dX9_readsFirst_23 h0 rfl ?_
    refine G_aload_n h dX9_readsFirst_26 (i := 0) rfl rfl rfl ?_
    obtain ⟨x5, hx5, hf⟩ := bd hf
    refine cl_X9_66 h (ok_X9_begin hE _ h0 hx5) dX9_readsFirst_27 h0 (as := []) rfl rfl ⟨rfl, rfl, Nat.le_of_ble_eq_true rfl, Nat.le_of_ble_eq_true rfl⟩ rfl (Nat.le_of_ble_eq_true rfl) ?_
    refine G_iconst h dX9_readsFirst_30 ki_0 rfl ?_
    refine G_istore_n h dX9_readsFirst_31 (i := 1) rfl (by decide) (L' := [some (.ref v0), some (.int (0 : Int32))]) rfl rfl ?_
    exact o_X9_readsFirst_L32 h hE hR  FU _ _ _ h0 hf
  · have hf := it_f c3 hf
    refine G_iconst h dX9_readsFirst_11 ki_0 rfl ?_
    exact pwZ hR dX9_readsFirst_12 (Or.inl rfl) hf
def rm_X9_readsOne : Room := { frames := 3, cells := 0, slots := 0, locals := 66 }
def f_X9_readsOne (E : Env1) (M : Mem) (v0 : Nat) : Option (Int32 × Mem) :=
  (f_X9_number E M v0 (0 : Int32) (5 : Int32)).bind fun x2 =>
  if x2.1 = 0 then (some ((0 : Int32), x2.2))
  else (
    (f_X9_number E x2.2 v0 (1 : Int32) (12 : Int32)).bind fun x5 =>
    if x5.1 = 0 then (some ((0 : Int32), x5.2))
    else (
      (f_X9_ends E x5.2 v0).bind fun x8 =>
      if x8.1 = 0 then (some ((0 : Int32), x8.2))
      else (
        (f_X9_addOne E x8.2 v0 (mi x2.2 v0 18) (mi x5.2 v0 18)).bind fun x10 =>
        some ((1 : Int32), x10.2))))
set_option maxRecDepth 100000 in
set_option maxHeartbeats 4000000 in
theorem ok_X9_readsOne {E : Env1} (hE : WF E) (l0 : Launch) {M : Mem} {M' : Mem} {v0 : Nat} {r : Int32} (h0 : isK E v0 8) (hf : f_X9_readsOne E M v0 = some (r, M')) : Met l0 yX9_readsOne (wsA yX9_readsOne cX9_readsOne 3 (some .boolean)) rm_X9_readsOne (CP E M [.ref v0]) (CQz E r M') 0 0 (eA E) := by
  unfold f_X9_readsOne at hf
  refine mtZ l0 (by decide +kernel) (Nat.le_of_ble_eq_true rfl) (L0 := [some (.ref v0), none, none]) rfl (fun X h hR => ?_)
  refine G_aload_n h dX9_readsOne_0 (i := 0) rfl rfl rfl ?_
  refine G_iconst h dX9_readsOne_1 ki_0 rfl ?_
  refine G_iconst h dX9_readsOne_2 ki_5 rfl ?_
  obtain ⟨x2, hx2, hf⟩ := bd hf
  refine cl_X9_135 h (ok_X9_number hE _ h0 hx2) dX9_readsOne_3 h0 (as := [.int (0 : Int32), .int (5 : Int32)]) rfl rfl ⟨rfl, rfl, Nat.le_of_ble_eq_true rfl, Nat.le_of_ble_eq_true rfl⟩ rfl (Nat.le_of_ble_eq_true rfl) (fun z1 => ?_)
  refine G_if_ne h dX9_readsOne_6 (tgt := 11) (by decide) rfl (fun c3 => ?_) (fun c3 => ?_)
  · have hf := it_f c3 hf
    refine G_aload_n h dX9_readsOne_11 (i := 0) rfl rfl rfl ?_
    refine gf_X9_132 h dX9_readsOne_12 h0 rfl ?_
    refine G_istore_n h dX9_readsOne_15 (i := 1) rfl (by decide) (L' := [some (.ref v0), some (.int (mi x2.2 v0 18)), none]) rfl rfl ?_
    refine G_aload_n h dX9_readsOne_16 (i := 0) rfl rfl rfl ?_
    refine G_iconst h dX9_readsOne_17 ki_1 rfl ?_
    refine G_bipush h dX9_readsOne_18 kb_12 rfl ?_
    obtain ⟨x5, hx5, hf⟩ := bd hf
    refine cl_X9_135 h (ok_X9_number hE _ h0 hx5) dX9_readsOne_20 h0 (as := [.int (1 : Int32), .int (12 : Int32)]) rfl rfl ⟨rfl, rfl, Nat.le_of_ble_eq_true rfl, Nat.le_of_ble_eq_true rfl⟩ rfl (Nat.le_of_ble_eq_true rfl) (fun z4 => ?_)
    refine G_if_ne h dX9_readsOne_23 (tgt := 28) (by decide) rfl (fun c6 => ?_) (fun c6 => ?_)
    · have hf := it_f c6 hf
      refine G_aload_n h dX9_readsOne_28 (i := 0) rfl rfl rfl ?_
      refine gf_X9_132 h dX9_readsOne_29 h0 rfl ?_
      refine G_istore_n h dX9_readsOne_32 (i := 2) rfl (by decide) (L' := [some (.ref v0), some (.int (mi x2.2 v0 18)), some (.int (mi x5.2 v0 18))]) rfl rfl ?_
      refine G_aload_n h dX9_readsOne_33 (i := 0) rfl rfl rfl ?_
      obtain ⟨x8, hx8, hf⟩ := bd hf
      refine cl_X9_139 h (ok_X9_ends hE _ h0 hx8) dX9_readsOne_34 h0 (as := []) rfl rfl ⟨rfl, rfl, Nat.le_of_ble_eq_true rfl, Nat.le_of_ble_eq_true rfl⟩ rfl (Nat.le_of_ble_eq_true rfl) (fun z7 => ?_)
      refine G_if_ne h dX9_readsOne_37 (tgt := 42) (by decide) rfl (fun c9 => ?_) (fun c9 => ?_)
      · have hf := it_f c9 hf
        refine G_aload_n h dX9_readsOne_42 (i := 0) rfl rfl rfl ?_
        refine G_iload_n h dX9_readsOne_43 (i := 1) rfl rfl rfl ?_
        refine G_iload_n h dX9_readsOne_44 (i := 2) rfl rfl rfl ?_
        obtain ⟨x10, hx10, hf⟩ := bd hf
        refine cl_X9_102 h (ok_X9_addOne hE _ h0 hx10) dX9_readsOne_45 h0 (as := [.int (mi x2.2 v0 18), .int (mi x5.2 v0 18)]) rfl rfl ⟨rfl, rfl, Nat.le_of_ble_eq_true rfl, Nat.le_of_ble_eq_true rfl⟩ rfl (Nat.le_of_ble_eq_true rfl) ?_
        refine G_pop h dX9_readsOne_48 rfl rfl ?_
        refine G_iconst h dX9_readsOne_49 ki_1 rfl ?_
        exact pwZ hR dX9_readsOne_50 (Or.inr rfl) hf
      · have hf := it_t c9 hf
        refine G_iconst h dX9_readsOne_40 ki_0 rfl ?_
        exact pwZ hR dX9_readsOne_41 (Or.inl rfl) hf
    · have hf := it_t c6 hf
      refine G_iconst h dX9_readsOne_26 ki_0 rfl ?_
      exact pwZ hR dX9_readsOne_27 (Or.inl rfl) hf
  · have hf := it_t c3 hf
    refine G_iconst h dX9_readsOne_9 ki_0 rfl ?_
    exact pwZ hR dX9_readsOne_10 (Or.inl rfl) hf
def rm_X9_readsCarpet : Room := { frames := 3, cells := 0, slots := 0, locals := 66 }
def f_X9_readsCarpet (E : Env1) (M : Mem) (v0 : Nat) : Option (Int32 × Mem) :=
  (f_X9_number E M v0 (0 : Int32) (6 : Int32)).bind fun x2 =>
  if x2.1 = 0 then (some ((0 : Int32), x2.2))
  else (
    (f_X9_ends E (wi x2.2 v0 3 ((mi x2.2 v0 3) ||| ((1 : Int32) <<< ((mi x2.2 v0 18) &&& 31)))) v0).bind fun x5 =>
    some (x5.1, x5.2))
set_option maxRecDepth 100000 in
set_option maxHeartbeats 4000000 in
theorem ok_X9_readsCarpet {E : Env1} (hE : WF E) (l0 : Launch) {M : Mem} {M' : Mem} {v0 : Nat} {r : Int32} (h0 : isK E v0 8) (hf : f_X9_readsCarpet E M v0 = some (r, M')) : Met l0 yX9_readsCarpet (wsA yX9_readsCarpet cX9_readsCarpet 1 (some .boolean)) rm_X9_readsCarpet (CP E M [.ref v0]) (CQz E r M') 0 0 (eA E) := by
  unfold f_X9_readsCarpet at hf
  refine mtZ l0 (by decide +kernel) (Nat.le_of_ble_eq_true rfl) (L0 := [some (.ref v0)]) rfl (fun X h hR => ?_)
  refine G_aload_n h dX9_readsCarpet_0 (i := 0) rfl rfl rfl ?_
  refine G_iconst h dX9_readsCarpet_1 ki_0 rfl ?_
  refine G_bipush h dX9_readsCarpet_2 kb_6 rfl ?_
  obtain ⟨x2, hx2, hf⟩ := bd hf
  refine cl_X9_135 h (ok_X9_number hE _ h0 hx2) dX9_readsCarpet_4 h0 (as := [.int (0 : Int32), .int (6 : Int32)]) rfl rfl ⟨rfl, rfl, Nat.le_of_ble_eq_true rfl, Nat.le_of_ble_eq_true rfl⟩ rfl (Nat.le_of_ble_eq_true rfl) (fun z1 => ?_)
  refine G_if_ne h dX9_readsCarpet_7 (tgt := 12) (by decide) rfl (fun c3 => ?_) (fun c3 => ?_)
  · have hf := it_f c3 hf
    refine G_aload_n h dX9_readsCarpet_12 (i := 0) rfl rfl rfl ?_
    refine G_dup h dX9_readsCarpet_13 rfl rfl ?_
    refine gf_X9_76 h dX9_readsCarpet_14 h0 rfl ?_
    refine G_iconst h dX9_readsCarpet_17 ki_1 rfl ?_
    refine G_aload_n h dX9_readsCarpet_18 (i := 0) rfl rfl rfl ?_
    refine gf_X9_132 h dX9_readsCarpet_19 h0 rfl ?_
    refine G_ishl h dX9_readsCarpet_22 rfl ?_
    refine G_ior h dX9_readsCarpet_23 rfl ?_
    refine pf_X9_76 h dX9_readsCarpet_24 h0 rfl ?_
    refine G_aload_n h dX9_readsCarpet_27 (i := 0) rfl rfl rfl ?_
    obtain ⟨x5, hx5, hf⟩ := bd hf
    refine cl_X9_139 h (ok_X9_ends hE _ h0 hx5) dX9_readsCarpet_28 h0 (as := []) rfl rfl ⟨rfl, rfl, Nat.le_of_ble_eq_true rfl, Nat.le_of_ble_eq_true rfl⟩ rfl (Nat.le_of_ble_eq_true rfl) (fun z4 => ?_)
    exact pwZ hR dX9_readsCarpet_31 z4 hf
  · have hf := it_t c3 hf
    refine G_iconst h dX9_readsCarpet_10 ki_0 rfl ?_
    exact pwZ hR dX9_readsCarpet_11 (Or.inl rfl) hf
def rm_X9_readsMinutes : Room := { frames := 3, cells := 0, slots := 0, locals := 66 }
def f_X9_readsMinutes (E : Env1) (M : Mem) (v0 : Nat) : Option (Int32 × Mem) :=
  (f_X9_number E M v0 (1 : Int32) (99 : Int32)).bind fun x2 =>
  if x2.1 = 0 then (some ((0 : Int32), x2.2))
  else (
    (f_X9_goesOn E x2.2 v0 (mi x2.2 v0 18)).bind fun x4 =>
    (f_X9_ends E x4 v0).bind fun x6 =>
    some (x6.1, x6.2))
set_option maxRecDepth 100000 in
set_option maxHeartbeats 4000000 in
theorem ok_X9_readsMinutes {E : Env1} (hE : WF E) (l0 : Launch) {M : Mem} {M' : Mem} {v0 : Nat} {r : Int32} (h0 : isK E v0 8) (hf : f_X9_readsMinutes E M v0 = some (r, M')) : Met l0 yX9_readsMinutes (wsA yX9_readsMinutes cX9_readsMinutes 1 (some .boolean)) rm_X9_readsMinutes (CP E M [.ref v0]) (CQz E r M') 0 0 (eA E) := by
  unfold f_X9_readsMinutes at hf
  refine mtZ l0 (by decide +kernel) (Nat.le_of_ble_eq_true rfl) (L0 := [some (.ref v0)]) rfl (fun X h hR => ?_)
  refine G_aload_n h dX9_readsMinutes_0 (i := 0) rfl rfl rfl ?_
  refine G_iconst h dX9_readsMinutes_1 ki_1 rfl ?_
  refine G_bipush h dX9_readsMinutes_2 kb_99 rfl ?_
  obtain ⟨x2, hx2, hf⟩ := bd hf
  refine cl_X9_135 h (ok_X9_number hE _ h0 hx2) dX9_readsMinutes_4 h0 (as := [.int (1 : Int32), .int (99 : Int32)]) rfl rfl ⟨rfl, rfl, Nat.le_of_ble_eq_true rfl, Nat.le_of_ble_eq_true rfl⟩ rfl (Nat.le_of_ble_eq_true rfl) (fun z1 => ?_)
  refine G_if_ne h dX9_readsMinutes_7 (tgt := 12) (by decide) rfl (fun c3 => ?_) (fun c3 => ?_)
  · have hf := it_f c3 hf
    refine G_aload_n h dX9_readsMinutes_12 (i := 0) rfl rfl rfl ?_
    refine G_aload_n h dX9_readsMinutes_13 (i := 0) rfl rfl rfl ?_
    refine gf_X9_132 h dX9_readsMinutes_14 h0 rfl ?_
    obtain ⟨x4, hx4, hf⟩ := bd hf
    refine cl_X9_143 h (ok_X9_goesOn hE _ h0 hx4) dX9_readsMinutes_17 h0 (as := [.int (mi x2.2 v0 18)]) rfl rfl ⟨rfl, rfl, Nat.le_of_ble_eq_true rfl, Nat.le_of_ble_eq_true rfl⟩ rfl (Nat.le_of_ble_eq_true rfl) ?_
    refine G_aload_n h dX9_readsMinutes_20 (i := 0) rfl rfl rfl ?_
    obtain ⟨x6, hx6, hf⟩ := bd hf
    refine cl_X9_139 h (ok_X9_ends hE _ h0 hx6) dX9_readsMinutes_21 h0 (as := []) rfl rfl ⟨rfl, rfl, Nat.le_of_ble_eq_true rfl, Nat.le_of_ble_eq_true rfl⟩ rfl (Nat.le_of_ble_eq_true rfl) (fun z5 => ?_)
    exact pwZ hR dX9_readsMinutes_24 z5 hf
  · have hf := it_t c3 hf
    refine G_iconst h dX9_readsMinutes_10 ki_0 rfl ?_
    exact pwZ hR dX9_readsMinutes_11 (Or.inl rfl) hf
def rm_X9_readsWhere : Room := { frames := 3, cells := 0, slots := 0, locals := 66 }
def f_X9_readsWhere (E : Env1) (M : Mem) (v0 : Nat) (v1 : Int32) : Option (Int32 × Mem) :=
  (f_X9_number E M v0 (0 : Int32) ((mi M v0 1) - (1 : Int32))).bind fun x2 =>
  if x2.1 = 0 then (some ((0 : Int32), x2.2))
  else (
    (f_X9_number E x2.2 v0 (0 : Int32) (if v1 = 0 then (8 : Int32) else (7 : Int32))).bind fun x6 =>
    if x6.1 = 0 then (some ((0 : Int32), x6.2))
    else (
      gd (mi x2.2 v0 18) 6 (nm (wi x6.2 (rr E v0 10) (ix (mi x2.2 v0 18)) ((mi x6.2 (rr E v0 10) (ix (mi x2.2 v0 18))) ||| (if v1 = 0 then (0 : Int32) else (1 : Int32) <<< ((mi x6.2 v0 18) &&& 31)))) fun M10 =>
      if v1 = 0 then (
        (f_X9_ends E (wi M10 (rr E v0 9) (ix (mi x2.2 v0 18)) (mi M10 v0 18)) v0).bind fun x13 =>
        some (x13.1, x13.2))
      else (
        (f_X9_ends E (wi M10 (rr E v0 9) (ix (mi x2.2 v0 18)) (mi M10 (rr E v0 9) (ix (mi x2.2 v0 18)))) v0).bind fun x15 =>
        some (x15.1, x15.2)))))
set_option maxRecDepth 100000 in
set_option maxHeartbeats 4000000 in
theorem ok_X9_readsWhere {E : Env1} (hE : WF E) (l0 : Launch) {M : Mem} {M' : Mem} {v0 : Nat} {v1 : Int32} {r : Int32} (h0 : isK E v0 8) (hf : f_X9_readsWhere E M v0 v1 = some (r, M')) : Met l0 yX9_readsWhere (wsA yX9_readsWhere cX9_readsWhere 3 (some .boolean)) rm_X9_readsWhere (CP E M [.ref v0, .int v1]) (CQz E r M') 0 0 (eA E) := by
  unfold f_X9_readsWhere at hf
  refine mtZ l0 (by decide +kernel) (Nat.le_of_ble_eq_true rfl) (L0 := [some (.ref v0), some (.int v1), none]) rfl (fun X h hR => ?_)
  refine G_aload_n h dX9_readsWhere_0 (i := 0) rfl rfl rfl ?_
  refine G_iconst h dX9_readsWhere_1 ki_0 rfl ?_
  refine G_aload_n h dX9_readsWhere_2 (i := 0) rfl rfl rfl ?_
  refine gf_X9_69 h dX9_readsWhere_3 h0 rfl ?_
  refine G_iconst h dX9_readsWhere_6 ki_1 rfl ?_
  refine G_isub h dX9_readsWhere_7 rfl ?_
  obtain ⟨x2, hx2, hf⟩ := bd hf
  refine cl_X9_135 h (ok_X9_number hE _ h0 hx2) dX9_readsWhere_8 h0 (as := [.int (0 : Int32), .int ((mi M v0 1) - (1 : Int32))]) rfl rfl ⟨rfl, rfl, Nat.le_of_ble_eq_true rfl, Nat.le_of_ble_eq_true rfl⟩ rfl (Nat.le_of_ble_eq_true rfl) (fun z1 => ?_)
  refine G_if_ne h dX9_readsWhere_11 (tgt := 16) (by decide) rfl (fun c3 => ?_) (fun c3 => ?_)
  · have hf := it_f c3 hf
    refine G_aload_n h dX9_readsWhere_16 (i := 0) rfl rfl rfl ?_
    refine gf_X9_132 h dX9_readsWhere_17 h0 rfl ?_
    refine G_istore_n h dX9_readsWhere_20 (i := 2) rfl (by decide) (L' := [some (.ref v0), some (.int v1), some (.int (mi x2.2 v0 18))]) rfl rfl ?_
    refine G_aload_n h dX9_readsWhere_21 (i := 0) rfl rfl rfl ?_
    refine G_iconst h dX9_readsWhere_22 ki_0 rfl ?_
    refine G_iload_n h dX9_readsWhere_23 (i := 1) rfl rfl rfl ?_
    have hJ : G X E (0, 0) 34 [some (.ref v0), some (.int v1), some (.int (mi x2.2 v0 18))] [.int (if v1 = 0 then (8 : Int32) else (7 : Int32)), .int (0 : Int32), .ref v0] x2.2 := by
      obtain ⟨x6, hx6, hf⟩ := bd hf
      refine cl_X9_135 h (ok_X9_number hE _ h0 hx6) dX9_readsWhere_34 h0 (as := [.int (0 : Int32), .int (if v1 = 0 then (8 : Int32) else (7 : Int32))]) rfl rfl ⟨rfl, rfl, Nat.le_of_ble_eq_true rfl, Nat.le_of_ble_eq_true rfl⟩ rfl (Nat.le_of_ble_eq_true rfl) (fun z5 => ?_)
      refine G_if_ne h dX9_readsWhere_37 (tgt := 42) (by decide) rfl (fun c7 => ?_) (fun c7 => ?_)
      · have hf := it_f c7 hf
        refine G_aload_n h dX9_readsWhere_42 (i := 0) rfl rfl rfl ?_
        refine gf_X9_22 h hE dX9_readsWhere_43 h0 rfl ?_
        refine G_iload_n h dX9_readsWhere_46 (i := 2) rfl rfl rfl ?_
        refine G_dup2 h dX9_readsWhere_47 rfl rfl rfl ?_
        obtain ⟨g8, hf⟩ := gd_some hf
        refine G_iald h dX9_readsWhere_48 ((w_8_10 hE h0).2) g8 (jx := (ix (mi x2.2 v0 18))) rfl rfl ?_
        refine G_iload_n h dX9_readsWhere_49 (i := 1) rfl rfl rfl ?_
        have hJ : G X E (0, 0) 63 [some (.ref v0), some (.int v1), some (.int (mi x2.2 v0 18))] [.int (if v1 = 0 then (0 : Int32) else (1 : Int32) <<< ((mi x6.2 v0 18) &&& 31)), .int (mi x6.2 (rr E v0 10) (ix (mi x2.2 v0 18))), .int (mi x2.2 v0 18), .ref (rr E v0 10)] x6.2 := by
          refine G_ior h dX9_readsWhere_63 rfl ?_
          refine G_iast h dX9_readsWhere_64 ((w_8_10 hE h0).2) g8 (jx := (ix (mi x2.2 v0 18))) rfl rfl ?_
          refine G_nmM (fun M10 hM10 => ?_)
          have hf := nm_eq hM10 hf
          refine G_aload_n h dX9_readsWhere_65 (i := 0) rfl rfl rfl ?_
          refine gf_X9_19 h hE dX9_readsWhere_66 h0 rfl ?_
          refine G_iload_n h dX9_readsWhere_69 (i := 2) rfl rfl rfl ?_
          refine G_iload_n h dX9_readsWhere_70 (i := 1) rfl rfl rfl ?_
          refine G_if_eq h dX9_readsWhere_71 (tgt := 83) (by decide) rfl (fun c11 => ?_) (fun c11 => ?_)
          · have hf := it_t c11 hf
            refine G_aload_n h dX9_readsWhere_83 (i := 0) rfl rfl rfl ?_
            refine gf_X9_132 h dX9_readsWhere_84 h0 rfl ?_
            refine G_iast h dX9_readsWhere_87 ((w_8_9 hE h0).2) g8 (jx := (ix (mi x2.2 v0 18))) rfl rfl ?_
            refine G_aload_n h dX9_readsWhere_88 (i := 0) rfl rfl rfl ?_
            obtain ⟨x13, hx13, hf⟩ := bd hf
            refine cl_X9_139 h (ok_X9_ends hE _ h0 hx13) dX9_readsWhere_89 h0 (as := []) rfl rfl ⟨rfl, rfl, Nat.le_of_ble_eq_true rfl, Nat.le_of_ble_eq_true rfl⟩ rfl (Nat.le_of_ble_eq_true rfl) (fun z12 => ?_)
            exact pwZ hR dX9_readsWhere_92 z12 hf
          · have hf := it_f c11 hf
            refine G_aload_n h dX9_readsWhere_74 (i := 0) rfl rfl rfl ?_
            refine gf_X9_19 h hE dX9_readsWhere_75 h0 rfl ?_
            refine G_iload_n h dX9_readsWhere_78 (i := 2) rfl rfl rfl ?_
            refine G_iald h dX9_readsWhere_79 ((w_8_9 hE h0).2) g8 (jx := (ix (mi x2.2 v0 18))) rfl rfl ?_
            refine G_goto h dX9_readsWhere_80 (tgt := 87) (by decide) ?_
            refine G_iast h dX9_readsWhere_87 ((w_8_9 hE h0).2) g8 (jx := (ix (mi x2.2 v0 18))) rfl rfl ?_
            refine G_aload_n h dX9_readsWhere_88 (i := 0) rfl rfl rfl ?_
            obtain ⟨x15, hx15, hf⟩ := bd hf
            refine cl_X9_139 h (ok_X9_ends hE _ h0 hx15) dX9_readsWhere_89 h0 (as := []) rfl rfl ⟨rfl, rfl, Nat.le_of_ble_eq_true rfl, Nat.le_of_ble_eq_true rfl⟩ rfl (Nat.le_of_ble_eq_true rfl) (fun z14 => ?_)
            exact pwZ hR dX9_readsWhere_92 z14 hf
        refine G_if_eq h dX9_readsWhere_50 (tgt := 62) (by decide) rfl (fun c9 => ?_) (fun c9 => ?_)
        · refine G_iconst h dX9_readsWhere_62 ki_0 rfl ?_
          exact G_ifp c9 hJ
        · refine G_iconst h dX9_readsWhere_53 ki_1 rfl ?_
          refine G_aload_n h dX9_readsWhere_54 (i := 0) rfl rfl rfl ?_
          refine gf_X9_132 h dX9_readsWhere_55 h0 rfl ?_
          refine G_ishl h dX9_readsWhere_58 rfl ?_
          refine G_goto h dX9_readsWhere_59 (tgt := 63) (by decide) ?_
          exact G_ifn c9 hJ
      · have hf := it_t c7 hf
        refine G_iconst h dX9_readsWhere_40 ki_0 rfl ?_
        exact pwZ hR dX9_readsWhere_41 (Or.inl rfl) hf
    refine G_if_eq h dX9_readsWhere_24 (tgt := 32) (by decide) rfl (fun c4 => ?_) (fun c4 => ?_)
    · refine G_bipush h dX9_readsWhere_32 kb_8 rfl ?_
      exact G_ifp c4 hJ
    · refine G_bipush h dX9_readsWhere_27 kb_7 rfl ?_
      refine G_goto h dX9_readsWhere_29 (tgt := 34) (by decide) ?_
      exact G_ifn c4 hJ
  · have hf := it_t c3 hf
    refine G_iconst h dX9_readsWhere_14 ki_0 rfl ?_
    exact pwZ hR dX9_readsWhere_15 (Or.inl rfl) hf
def rm_X9_readsItem : Room := { frames := 4, cells := 0, slots := 0, locals := 88 }
def f_X9_readsItem_L26 (E : Env1) (M : Mem) (v0 : Nat) (v1 : Int32) : Option (Int32 × Mem) :=
  (f_X9_wordSize E M v0).bind fun x1 =>
  if v1 = (1 : Int32) then (
    (f_X9_readsOne E (wi M v0 17 ((mi M v0 17) + x1)) v0).bind fun x13 =>
    some (x13.1, x13.2))
  else (
    if v1 = (3 : Int32) then (
      (f_X9_readsCarpet E (wi M v0 17 ((mi M v0 17) + x1)) v0).bind fun x11 =>
      some (x11.1, x11.2))
    else (
      if v1 = (5 : Int32) then (
        (f_X9_readsMinutes E (wi M v0 17 ((mi M v0 17) + x1)) v0).bind fun x9 =>
        some (x9.1, x9.2))
      else (
        (f_X9_readsWhere E (wi M v0 17 ((mi M v0 17) + x1)) v0 (if v1 = (2 : Int32) then (1 : Int32) else (0 : Int32))).bind fun x7 =>
        some (x7.1, x7.2))))
set_option maxRecDepth 100000 in
set_option maxHeartbeats 4000000 in
theorem o_X9_readsItem_L26 {X : Ctx} {l0 : Launch} {E : Env1} (h : Cx X l0 E RX9 cX9_readsItem (some .boolean) 2 rm_X9_readsItem) (hE : WF E) {M' : Mem} {r : Int32} (hR : RetZ X E cX9_readsItem r M') {M : Mem} {v0 : Nat} {v1 : Int32} (h_v0 : isK E v0 8) (hf : f_X9_readsItem_L26 E M v0 v1 = some (r, M')) : G X E (0, 0) 26 [some (.ref v0), some (.int v1)] [] M := by
  unfold f_X9_readsItem_L26 at hf
  refine G_aload_n h dX9_readsItem_26 (i := 0) rfl rfl rfl ?_
  refine G_dup h dX9_readsItem_27 rfl rfl ?_
  refine gf_X9_109 h dX9_readsItem_28 h_v0 rfl ?_
  refine G_aload_n h dX9_readsItem_31 (i := 0) rfl rfl rfl ?_
  obtain ⟨x1, hx1, hf⟩ := bd hf
  refine cl_X9_119 h (ok_X9_wordSize hE _ h_v0 hx1) dX9_readsItem_32 h_v0 (as := []) rfl rfl ⟨rfl, rfl, Nat.le_of_ble_eq_true rfl, Nat.le_of_ble_eq_true rfl⟩ rfl (Nat.le_of_ble_eq_true rfl) ?_
  refine G_iadd h dX9_readsItem_35 rfl ?_
  refine pf_X9_109 h dX9_readsItem_36 h_v0 rfl ?_
  refine G_iload_n h dX9_readsItem_39 (i := 1) rfl rfl rfl ?_
  refine G_iconst h dX9_readsItem_40 ki_1 rfl ?_
  refine G_icmp_ne h dX9_readsItem_41 (tgt := 51) (by decide) rfl (fun c2 => ?_) (fun c2 => ?_)
  · have hf := it_f c2 hf
    refine G_iload_n h dX9_readsItem_51 (i := 1) rfl rfl rfl ?_
    refine G_iconst h dX9_readsItem_52 ki_3 rfl ?_
    refine G_icmp_ne h dX9_readsItem_53 (tgt := 63) (by decide) rfl (fun c3 => ?_) (fun c3 => ?_)
    · have hf := it_f c3 hf
      refine G_iload_n h dX9_readsItem_63 (i := 1) rfl rfl rfl ?_
      refine G_iconst h dX9_readsItem_64 ki_5 rfl ?_
      refine G_icmp_ne h dX9_readsItem_65 (tgt := 75) (by decide) rfl (fun c4 => ?_) (fun c4 => ?_)
      · have hf := it_f c4 hf
        refine G_aload_n h dX9_readsItem_75 (i := 0) rfl rfl rfl ?_
        refine G_iload_n h dX9_readsItem_76 (i := 1) rfl rfl rfl ?_
        refine G_iconst h dX9_readsItem_77 ki_2 rfl ?_
        have hJ : G X E (0, 0) 86 [some (.ref v0), some (.int v1)] [.int (if v1 = (2 : Int32) then (1 : Int32) else (0 : Int32)), .ref v0] (wi M v0 17 ((mi M v0 17) + x1)) := by
          obtain ⟨x7, hx7, hf⟩ := bd hf
          refine cl_X9_159 h (ok_X9_readsWhere hE _ h_v0 hx7) dX9_readsItem_86 h_v0 (as := [.int (if v1 = (2 : Int32) then (1 : Int32) else (0 : Int32))]) rfl rfl ⟨rfl, rfl, Nat.le_of_ble_eq_true rfl, Nat.le_of_ble_eq_true rfl⟩ rfl (Nat.le_of_ble_eq_true rfl) (fun z6 => ?_)
          exact pwZ hR dX9_readsItem_89 z6 hf
        refine G_icmp_ne h dX9_readsItem_78 (tgt := 85) (by decide) rfl (fun c5 => ?_) (fun c5 => ?_)
        · refine G_iconst h dX9_readsItem_85 ki_0 rfl ?_
          exact G_ifn c5 hJ
        · refine G_iconst h dX9_readsItem_81 ki_1 rfl ?_
          refine G_goto h dX9_readsItem_82 (tgt := 86) (by decide) ?_
          exact G_ifp c5 hJ
      · have hf := it_t c4 hf
        refine G_aload_n h dX9_readsItem_68 (i := 0) rfl rfl rfl ?_
        obtain ⟨x9, hx9, hf⟩ := bd hf
        refine cl_X9_156 h (ok_X9_readsMinutes hE _ h_v0 hx9) dX9_readsItem_69 h_v0 (as := []) rfl rfl ⟨rfl, rfl, Nat.le_of_ble_eq_true rfl, Nat.le_of_ble_eq_true rfl⟩ rfl (Nat.le_of_ble_eq_true rfl) (fun z8 => ?_)
        refine G_goto h dX9_readsItem_72 (tgt := 89) (by decide) ?_
        exact pwZ hR dX9_readsItem_89 z8 hf
    · have hf := it_t c3 hf
      refine G_aload_n h dX9_readsItem_56 (i := 0) rfl rfl rfl ?_
      obtain ⟨x11, hx11, hf⟩ := bd hf
      refine cl_X9_153 h (ok_X9_readsCarpet hE _ h_v0 hx11) dX9_readsItem_57 h_v0 (as := []) rfl rfl ⟨rfl, rfl, Nat.le_of_ble_eq_true rfl, Nat.le_of_ble_eq_true rfl⟩ rfl (Nat.le_of_ble_eq_true rfl) (fun z10 => ?_)
      refine G_goto h dX9_readsItem_60 (tgt := 89) (by decide) ?_
      exact pwZ hR dX9_readsItem_89 z10 hf
  · have hf := it_t c2 hf
    refine G_aload_n h dX9_readsItem_44 (i := 0) rfl rfl rfl ?_
    obtain ⟨x13, hx13, hf⟩ := bd hf
    refine cl_X9_150 h (ok_X9_readsOne hE _ h_v0 hx13) dX9_readsItem_45 h_v0 (as := []) rfl rfl ⟨rfl, rfl, Nat.le_of_ble_eq_true rfl, Nat.le_of_ble_eq_true rfl⟩ rfl (Nat.le_of_ble_eq_true rfl) (fun z12 => ?_)
    refine G_goto h dX9_readsItem_48 (tgt := 89) (by decide) ?_
    exact pwZ hR dX9_readsItem_89 z12 hf
def f_X9_readsItem (E : Env1) (M : Mem) (v0 : Nat) : Option (Int32 × Mem) :=
  (f_X9_wordHere E M v0).bind fun x1 =>
  if x1 < (1 : Int32) then (some ((0 : Int32), M))
  else (
    if x1 = (1 : Int32) then (
      if (mi M v0 1) = (6 : Int32) then (some ((0 : Int32), M))
      else (f_X9_readsItem_L26 E M v0 x1))
    else (f_X9_readsItem_L26 E M v0 x1))
set_option maxRecDepth 100000 in
set_option maxHeartbeats 4000000 in
theorem ok_X9_readsItem {E : Env1} (hE : WF E) (l0 : Launch) {M : Mem} {M' : Mem} {v0 : Nat} {r : Int32} (h0 : isK E v0 8) (hf : f_X9_readsItem E M v0 = some (r, M')) : Met l0 yX9_readsItem (wsA yX9_readsItem cX9_readsItem 2 (some .boolean)) rm_X9_readsItem (CP E M [.ref v0]) (CQz E r M') 0 0 (eA E) := by
  unfold f_X9_readsItem at hf
  refine mtZ l0 (by decide +kernel) (Nat.le_of_ble_eq_true rfl) (L0 := [some (.ref v0), none]) rfl (fun X h hR => ?_)
  refine G_aload_n h dX9_readsItem_0 (i := 0) rfl rfl rfl ?_
  obtain ⟨x1, hx1, hf⟩ := bd hf
  refine cl_X9_147 h (ok_X9_wordHere hE _ h0 hx1) dX9_readsItem_1 h0 (as := []) rfl rfl ⟨rfl, rfl, Nat.le_of_ble_eq_true rfl, Nat.le_of_ble_eq_true rfl⟩ rfl (Nat.le_of_ble_eq_true rfl) ?_
  refine G_istore_n h dX9_readsItem_4 (i := 1) rfl (by decide) (L' := [some (.ref v0), some (.int x1)]) rfl rfl ?_
  refine G_iload_n h dX9_readsItem_5 (i := 1) rfl rfl rfl ?_
  refine G_iconst h dX9_readsItem_6 ki_1 rfl ?_
  refine G_icmp_lt h dX9_readsItem_7 (tgt := 24) (by decide) rfl (fun c2 => ?_) (fun c2 => ?_)
  · have hf := it_t c2 hf
    refine G_iconst h dX9_readsItem_24 ki_0 rfl ?_
    exact pwZ hR dX9_readsItem_25 (Or.inl rfl) hf
  · have hf := it_f c2 hf
    refine G_iload_n h dX9_readsItem_10 (i := 1) rfl rfl rfl ?_
    refine G_iconst h dX9_readsItem_11 ki_1 rfl ?_
    refine G_icmp_ne h dX9_readsItem_12 (tgt := 26) (by decide) rfl (fun c3 => ?_) (fun c3 => ?_)
    · have hf := it_f c3 hf
      exact o_X9_readsItem_L26 h hE hR h0 hf
    · have hf := it_t c3 hf
      refine G_aload_n h dX9_readsItem_15 (i := 0) rfl rfl rfl ?_
      refine gf_X9_69 h dX9_readsItem_16 h0 rfl ?_
      refine G_bipush h dX9_readsItem_19 kb_6 rfl ?_
      refine G_icmp_ne h dX9_readsItem_21 (tgt := 26) (by decide) rfl (fun c4 => ?_) (fun c4 => ?_)
      · have hf := it_f c4 hf
        exact o_X9_readsItem_L26 h hE hR h0 hf
      · have hf := it_t c4 hf
        refine G_iconst h dX9_readsItem_24 ki_0 rfl ?_
        exact pwZ hR dX9_readsItem_25 (Or.inl rfl) hf
def rm_X9_readsHouse : Room := { frames := 5, cells := 0, slots := 0, locals := 109 }
def b_X9_readsHouse_L20 (E : Env1) (k20 : Mem → Nat → Int32 → (Option (Int32 × Mem))) (M : Mem) (v0 : Nat) (v1 : Int32) : Option (Int32 × Mem) :=
  if (mi M v0 16) ≤ (mi M v0 17) then (some (v1, M))
  else (
    (f_X9_readsItem E M v0).bind fun x3 =>
    if x3.1 = 0 then (some ((-1 : Int32), x3.2))
    else (
      (f_X9_skip E x3.2 v0).bind fun x5 =>
      k20 x5 v0 (v1 + 1)))
set_option maxRecDepth 100000 in
set_option maxHeartbeats 4000000 in
theorem ob_X9_readsHouse_L20 {X : Ctx} {l0 : Launch} {E : Env1} (h : Cx X l0 E RX9 cX9_readsHouse (some .int) 2 rm_X9_readsHouse) (hE : WF E) {M' : Mem} {r : Int32} (hR : RetI X E cX9_readsHouse r M') {k20 : Mem → Nat → Int32 → (Option (Int32 × Mem))} (hk20 : ∀ (M : Mem) (v0 : Nat) (v1 : Int32), isK E v0 8 → k20 M v0 v1 = some (r, M') → G X E (0, 0) 20 [some (.ref v0), some (.int v1)] [] M) {M : Mem} {v0 : Nat} {v1 : Int32} (h_v0 : isK E v0 8) (hf : b_X9_readsHouse_L20 E k20 M v0 v1 = some (r, M')) : G X E (0, 0) 20 [some (.ref v0), some (.int v1)] [] M := by
  unfold b_X9_readsHouse_L20 at hf
  refine G_aload_n h dX9_readsHouse_20 (i := 0) rfl rfl rfl ?_
  refine gf_X9_109 h dX9_readsHouse_21 h_v0 rfl ?_
  refine G_aload_n h dX9_readsHouse_24 (i := 0) rfl rfl rfl ?_
  refine gf_X9_106 h dX9_readsHouse_25 h_v0 rfl ?_
  refine G_icmp_ge h dX9_readsHouse_28 (tgt := 50) (by decide) rfl (fun c1 => ?_) (fun c1 => ?_)
  · have hf := it_t c1 hf
    refine G_iload_n h dX9_readsHouse_50 (i := 1) rfl rfl rfl ?_
    exact pwI hR dX9_readsHouse_51 hf
  · have hf := it_f c1 hf
    refine G_aload_n h dX9_readsHouse_31 (i := 0) rfl rfl rfl ?_
    obtain ⟨x3, hx3, hf⟩ := bd hf
    refine cl_X9_166 h (ok_X9_readsItem hE _ h_v0 hx3) dX9_readsHouse_32 h_v0 (as := []) rfl rfl ⟨rfl, rfl, Nat.le_of_ble_eq_true rfl, Nat.le_of_ble_eq_true rfl⟩ rfl (Nat.le_of_ble_eq_true rfl) (fun z2 => ?_)
    refine G_if_ne h dX9_readsHouse_35 (tgt := 40) (by decide) rfl (fun c4 => ?_) (fun c4 => ?_)
    · have hf := it_f c4 hf
      refine G_iinc2 h dX9_readsHouse_40 rfl ki_1 (by decide) (L' := [some (.ref v0), some (.int (v1 + 1))]) rfl rfl ?_
      refine G_aload_n h dX9_readsHouse_43 (i := 0) rfl rfl rfl ?_
      obtain ⟨x5, hx5, hf⟩ := bd hf
      refine cl_X9_126 h (ok_X9_skip hE _ h_v0 hx5) dX9_readsHouse_44 h_v0 (as := []) rfl rfl ⟨rfl, rfl, Nat.le_of_ble_eq_true rfl, Nat.le_of_ble_eq_true rfl⟩ rfl (Nat.le_of_ble_eq_true rfl) ?_
      refine G_goto h dX9_readsHouse_47 (tgt := 20) (by decide) ?_
      exact hk20 _ _ _ h_v0 hf
    · have hf := it_t c4 hf
      refine G_iconst h dX9_readsHouse_38 ki_m1 rfl ?_
      exact pwI hR dX9_readsHouse_39 hf
def f_X9_readsHouse_L20 (E : Env1) : Nat → Mem → Nat → Int32 → (Option (Int32 × Mem))
  | 0 => fun _ _ _ => none
  | n + 1 => b_X9_readsHouse_L20 E (f_X9_readsHouse_L20 E n)
theorem o_X9_readsHouse_L20 {X : Ctx} {l0 : Launch} {E : Env1} (h : Cx X l0 E RX9 cX9_readsHouse (some .int) 2 rm_X9_readsHouse) (hE : WF E) {M' : Mem} {r : Int32} (hR : RetI X E cX9_readsHouse r M') : ∀ (n : Nat) (M : Mem) (v0 : Nat) (v1 : Int32), isK E v0 8 → f_X9_readsHouse_L20 E n M v0 v1 = some (r, M') → G X E (0, 0) 20 [some (.ref v0), some (.int v1)] [] M := by
  intro n
  induction n with
  | zero =>
    intro _ _ _ a0 hf
    have h0 : (none : Option (Int32 × Mem)) = some (r, M') := hf
    cases h0
  | succ n ih =>
    intro _ _ _ a0 hf
    exact ob_X9_readsHouse_L20 h hE hR  ih a0 hf
def f_X9_readsHouse (E : Env1) (M : Mem) (v0 : Nat) : Option (Int32 × Mem) :=
  (f_X9_readsFirst E (wi M v0 17 (0 : Int32)) v0).bind fun x2 =>
  if x2.1 = 0 then (some ((-1 : Int32), x2.2))
  else (
    (f_X9_skip E x2.2 v0).bind fun x4 =>
    f_X9_readsHouse_L20 E FU x4 v0 (1 : Int32))
set_option maxRecDepth 100000 in
set_option maxHeartbeats 4000000 in
theorem ok_X9_readsHouse {E : Env1} (hE : WF E) (l0 : Launch) {M : Mem} {M' : Mem} {v0 : Nat} {r : Int32} (h0 : isK E v0 8) (hf : f_X9_readsHouse E M v0 = some (r, M')) : Met l0 yX9_readsHouse (wsA yX9_readsHouse cX9_readsHouse 2 (some .int)) rm_X9_readsHouse (CP E M [.ref v0]) (CQi E r M') 0 0 (eA E) := by
  unfold f_X9_readsHouse at hf
  refine mtI l0 (by decide +kernel) (Nat.le_of_ble_eq_true rfl) (L0 := [some (.ref v0), none]) rfl (fun X h hR => ?_)
  refine G_aload_n h dX9_readsHouse_0 (i := 0) rfl rfl rfl ?_
  refine G_iconst h dX9_readsHouse_1 ki_0 rfl ?_
  refine pf_X9_109 h dX9_readsHouse_2 h0 rfl ?_
  refine G_aload_n h dX9_readsHouse_5 (i := 0) rfl rfl rfl ?_
  obtain ⟨x2, hx2, hf⟩ := bd hf
  refine cl_X9_163 h (ok_X9_readsFirst hE _ h0 hx2) dX9_readsHouse_6 h0 (as := []) rfl rfl ⟨rfl, rfl, Nat.le_of_ble_eq_true rfl, Nat.le_of_ble_eq_true rfl⟩ rfl (Nat.le_of_ble_eq_true rfl) (fun z1 => ?_)
  refine G_if_ne h dX9_readsHouse_9 (tgt := 14) (by decide) rfl (fun c3 => ?_) (fun c3 => ?_)
  · have hf := it_f c3 hf
    refine G_iconst h dX9_readsHouse_14 ki_1 rfl ?_
    refine G_istore_n h dX9_readsHouse_15 (i := 1) rfl (by decide) (L' := [some (.ref v0), some (.int (1 : Int32))]) rfl rfl ?_
    refine G_aload_n h dX9_readsHouse_16 (i := 0) rfl rfl rfl ?_
    obtain ⟨x4, hx4, hf⟩ := bd hf
    refine cl_X9_126 h (ok_X9_skip hE _ h0 hx4) dX9_readsHouse_17 h0 (as := []) rfl rfl ⟨rfl, rfl, Nat.le_of_ble_eq_true rfl, Nat.le_of_ble_eq_true rfl⟩ rfl (Nat.le_of_ble_eq_true rfl) ?_
    exact o_X9_readsHouse_L20 h hE hR  FU _ _ _ h0 hf
  · have hf := it_t c3 hf
    refine G_iconst h dX9_readsHouse_12 ki_m1 rfl ?_
    exact pwI hR dX9_readsHouse_13 hf
def rm_X9_read : Room := { frames := 6, cells := 0, slots := 0, locals := 130 }
def f_X9_read (E : Env1) (M : Mem) (v0 : Nat) : Option (Int32 × Mem) :=
  (f_X9_layAll E 300 M v0 (rr E v0 19) (0 : Int32)).bind fun x1 =>
  (f_X9_readsHouse E x1 v0).bind fun x2 =>
  if 0 ≤ x2.1 then (some (x2.1, wi x2.2 v0 21 (0 : Int32)))
  else (
    (f_X9_takeAll E 300 x2.2 v0 (rr E v0 19) (0 : Int32)).bind fun x4 =>
    some ((-10 : Int32) - (mi x4 v0 17), x4))
set_option maxRecDepth 100000 in
set_option maxHeartbeats 4000000 in
theorem ok_X9_read {E : Env1} (hE : WF E) (l0 : Launch) {M : Mem} {M' : Mem} {v0 : Nat} {r : Int32} (h0 : isK E v0 8) (hf : f_X9_read E M v0 = some (r, M')) : Met l0 yX9_read (wsA yX9_read cX9_read 2 (some .int)) rm_X9_read (CP E M [.ref v0]) (CQi E r M') 0 0 (eA E) := by
  unfold f_X9_read at hf
  refine mtI l0 (by decide +kernel) (Nat.le_of_ble_eq_true rfl) (L0 := [some (.ref v0), none]) rfl (fun X h hR => ?_)
  refine G_aload_n h dX9_read_0 (i := 0) rfl rfl rfl ?_
  refine G_aload_n h dX9_read_1 (i := 0) rfl rfl rfl ?_
  refine gf_X9_40 h hE dX9_read_2 h0 rfl ?_
  refine G_iconst h dX9_read_5 ki_0 rfl ?_
  obtain ⟨x1, hx1, hf⟩ := bd hf
  refine cl_X9_169 h (ok_X9_layAll hE _ h0 ((w_8_19 hE h0).2) hx1) dX9_read_6 h0 (as := [.ref (rr E v0 19), .int (0 : Int32)]) rfl rfl ⟨rfl, rfl, Nat.le_of_ble_eq_true rfl, Nat.le_of_ble_eq_true rfl⟩ rfl (Nat.le_of_ble_eq_true rfl) ?_
  refine G_aload_n h dX9_read_9 (i := 0) rfl rfl rfl ?_
  obtain ⟨x2, hx2, hf⟩ := bd hf
  refine cl_X9_173 h (ok_X9_readsHouse hE _ h0 hx2) dX9_read_10 h0 (as := []) rfl rfl ⟨rfl, rfl, Nat.le_of_ble_eq_true rfl, Nat.le_of_ble_eq_true rfl⟩ rfl (Nat.le_of_ble_eq_true rfl) ?_
  refine G_istore_n h dX9_read_13 (i := 1) rfl (by decide) (L' := [some (.ref v0), some (.int x2.1)]) rfl rfl ?_
  refine G_iload_n h dX9_read_14 (i := 1) rfl rfl rfl ?_
  refine G_if_ge h dX9_read_15 (tgt := 35) (by decide) rfl (fun c3 => ?_) (fun c3 => ?_)
  · have hf := it_t c3 hf
    refine G_aload_n h dX9_read_35 (i := 0) rfl rfl rfl ?_
    refine G_iconst h dX9_read_36 ki_0 rfl ?_
    refine pf_X9_88 h dX9_read_37 h0 rfl ?_
    refine G_iload_n h dX9_read_40 (i := 1) rfl rfl rfl ?_
    exact pwI hR dX9_read_41 hf
  · have hf := it_f c3 hf
    refine G_aload_n h dX9_read_18 (i := 0) rfl rfl rfl ?_
    refine G_aload_n h dX9_read_19 (i := 0) rfl rfl rfl ?_
    refine gf_X9_40 h hE dX9_read_20 h0 rfl ?_
    refine G_iconst h dX9_read_23 ki_0 rfl ?_
    obtain ⟨x4, hx4, hf⟩ := bd hf
    refine cl_X9_176 h (ok_X9_takeAll hE _ h0 ((w_8_19 hE h0).2) hx4) dX9_read_24 h0 (as := [.ref (rr E v0 19), .int (0 : Int32)]) rfl rfl ⟨rfl, rfl, Nat.le_of_ble_eq_true rfl, Nat.le_of_ble_eq_true rfl⟩ rfl (Nat.le_of_ble_eq_true rfl) ?_
    refine G_bipush h dX9_read_27 kb_m10 rfl ?_
    refine G_aload_n h dX9_read_29 (i := 0) rfl rfl rfl ?_
    refine gf_X9_109 h dX9_read_30 h0 rfl ?_
    refine G_isub h dX9_read_33 rfl ?_
    exact pwI hR dX9_read_34 hf
def rm_X9_seen : Room := { frames := 2, cells := 0, slots := 0, locals := 43 }
def f_X9_seen (E : Env1) (M : Mem) (v0 : Nat) (v1 : Int32) (v2 : Int32) (v3 : Int32) : Option (Int32 × Mem) :=
  if (f_X9_isOne E M v0 v1) = 0 then (
    nm (f_X9_bad E M v0) fun x3 =>
    some (x3.1, x3.2))
  else (
    if (f_X9_isStep E M v2) = 0 then (
      nm (f_X9_bad E M v0) fun x6 =>
      some (x6.1, x6.2))
    else (
      if (f_X9_in E M v3 (0 : Int32) (1 : Int32)) = 0 then (
        nm (f_X9_bad E M v0) fun x16 =>
        some (x16.1, x16.2))
      else (
        if (mi M v0 4) = (6 : Int32) then (
          nm (f_X9_full E M v0) fun x15 =>
          some (x15.1, x15.2))
        else (
          gd ((3 : Int32) * (mi M v0 4)) 18 (gd (((3 : Int32) * (mi (wi M (rr E v0 12) (ix ((3 : Int32) * (mi M v0 4))) v1) v0 4)) + (1 : Int32)) 18 (nm (wi (wi M (rr E v0 12) (ix ((3 : Int32) * (mi M v0 4))) v1) (rr E v0 12) (ix (((3 : Int32) * (mi (wi M (rr E v0 12) (ix ((3 : Int32) * (mi M v0 4))) v1) v0 4)) + (1 : Int32))) v2) fun M12 =>
          gd (((3 : Int32) * (mi M12 v0 4)) + (2 : Int32)) 18 (nm (wi (wi M12 (rr E v0 12) (ix (((3 : Int32) * (mi M12 v0 4)) + (2 : Int32))) v3) v0 4 ((mi (wi M12 (rr E v0 12) (ix (((3 : Int32) * (mi M12 v0 4)) + (2 : Int32))) v3) v0 4) + (1 : Int32))) fun M14 =>
          some (mi M14 v0 4, M14))))))))
set_option maxRecDepth 100000 in
set_option maxHeartbeats 4000000 in
theorem ok_X9_seen {E : Env1} (hE : WF E) (l0 : Launch) {M : Mem} {M' : Mem} {v0 : Nat} {v1 : Int32} {v2 : Int32} {v3 : Int32} {r : Int32} (h0 : isK E v0 8) (hf : f_X9_seen E M v0 v1 v2 v3 = some (r, M')) : Met l0 yX9_seen (wsA yX9_seen cX9_seen 4 (some .int)) rm_X9_seen (CP E M [.ref v0, .int v1, .int v2, .int v3]) (CQi E r M') 0 0 (eA E) := by
  unfold f_X9_seen at hf
  refine mtI l0 (by decide +kernel) (Nat.le_of_ble_eq_true rfl) (L0 := [some (.ref v0), some (.int v1), some (.int v2), some (.int v3)]) rfl (fun X h hR => ?_)
  refine G_aload_n h dX9_seen_0 (i := 0) rfl rfl rfl ?_
  refine G_iload_n h dX9_seen_1 (i := 1) rfl rfl rfl ?_
  refine cl_X9_216 h (ok_X9_isOne hE _ h0 (r := f_X9_isOne E M v0 v1) rfl) dX9_seen_2 h0 (as := [.int v1]) rfl rfl ⟨rfl, rfl, Nat.le_of_ble_eq_true rfl, Nat.le_of_ble_eq_true rfl⟩ rfl (Nat.le_of_ble_eq_true rfl) (fun z1 => ?_)
  refine G_if_eq h dX9_seen_5 (tgt := 24) (by decide) rfl (fun c2 => ?_) (fun c2 => ?_)
  · have hf := it_t c2 hf
    refine G_aload_n h dX9_seen_24 (i := 0) rfl rfl rfl ?_
    obtain ⟨x3, hx3⟩ : ∃ x, x = f_X9_bad E M v0 := ⟨_, rfl⟩
    have hf := nm_eq hx3 hf
    refine cl_X9_95 h (ok_X9_bad hE _ h0 hx3.symm) dX9_seen_25 h0 (as := []) rfl rfl ⟨rfl, rfl, Nat.le_of_ble_eq_true rfl, Nat.le_of_ble_eq_true rfl⟩ rfl (Nat.le_of_ble_eq_true rfl) ?_
    exact pwI hR dX9_seen_28 hf
  · have hf := it_f c2 hf
    refine G_iload_n h dX9_seen_8 (i := 2) rfl rfl rfl ?_
    refine cl_X9_219 h (ok_X9_isStep hE _  (r := f_X9_isStep E M v2) rfl) dX9_seen_9 (as := [.int v2]) rfl rfl ⟨rfl, rfl, Nat.le_of_ble_eq_true rfl, Nat.le_of_ble_eq_true rfl⟩ rfl (Nat.le_of_ble_eq_true rfl) (fun z4 => ?_)
    refine G_if_eq h dX9_seen_12 (tgt := 24) (by decide) rfl (fun c5 => ?_) (fun c5 => ?_)
    · have hf := it_t c5 hf
      refine G_aload_n h dX9_seen_24 (i := 0) rfl rfl rfl ?_
      obtain ⟨x6, hx6⟩ : ∃ x, x = f_X9_bad E M v0 := ⟨_, rfl⟩
      have hf := nm_eq hx6 hf
      refine cl_X9_95 h (ok_X9_bad hE _ h0 hx6.symm) dX9_seen_25 h0 (as := []) rfl rfl ⟨rfl, rfl, Nat.le_of_ble_eq_true rfl, Nat.le_of_ble_eq_true rfl⟩ rfl (Nat.le_of_ble_eq_true rfl) ?_
      exact pwI hR dX9_seen_28 hf
    · have hf := it_f c5 hf
      refine G_iload_n h dX9_seen_15 (i := 3) rfl rfl rfl ?_
      refine G_iconst h dX9_seen_16 ki_0 rfl ?_
      refine G_iconst h dX9_seen_17 ki_1 rfl ?_
      refine cl_X9_91 h (ok_X9_in hE _  (r := f_X9_in E M v3 (0 : Int32) (1 : Int32)) rfl) dX9_seen_18 (as := [.int v3, .int (0 : Int32), .int (1 : Int32)]) rfl rfl ⟨rfl, rfl, Nat.le_of_ble_eq_true rfl, Nat.le_of_ble_eq_true rfl⟩ rfl (Nat.le_of_ble_eq_true rfl) (fun z7 => ?_)
      refine G_if_ne h dX9_seen_21 (tgt := 29) (by decide) rfl (fun c8 => ?_) (fun c8 => ?_)
      · have hf := it_f c8 hf
        refine G_aload_n h dX9_seen_29 (i := 0) rfl rfl rfl ?_
        refine gf_X9_79 h dX9_seen_30 h0 rfl ?_
        refine G_bipush h dX9_seen_33 kb_6 rfl ?_
        refine G_icmp_ne h dX9_seen_35 (tgt := 43) (by decide) rfl (fun c9 => ?_) (fun c9 => ?_)
        · have hf := it_f c9 hf
          refine G_aload_n h dX9_seen_43 (i := 0) rfl rfl rfl ?_
          refine gf_X9_28 h hE dX9_seen_44 h0 rfl ?_
          refine G_iconst h dX9_seen_47 ki_3 rfl ?_
          refine G_aload_n h dX9_seen_48 (i := 0) rfl rfl rfl ?_
          refine gf_X9_79 h dX9_seen_49 h0 rfl ?_
          refine G_imul h dX9_seen_52 rfl ?_
          refine G_iload_n h dX9_seen_53 (i := 1) rfl rfl rfl ?_
          obtain ⟨g10, hf⟩ := gd_some hf
          refine G_iast h dX9_seen_54 ((w_8_12 hE h0).2) g10 (jx := (ix ((3 : Int32) * (mi M v0 4)))) rfl rfl ?_
          refine G_aload_n h dX9_seen_55 (i := 0) rfl rfl rfl ?_
          refine gf_X9_28 h hE dX9_seen_56 h0 rfl ?_
          refine G_iconst h dX9_seen_59 ki_3 rfl ?_
          refine G_aload_n h dX9_seen_60 (i := 0) rfl rfl rfl ?_
          refine gf_X9_79 h dX9_seen_61 h0 rfl ?_
          refine G_imul h dX9_seen_64 rfl ?_
          refine G_iconst h dX9_seen_65 ki_1 rfl ?_
          refine G_iadd h dX9_seen_66 rfl ?_
          refine G_iload_n h dX9_seen_67 (i := 2) rfl rfl rfl ?_
          obtain ⟨g11, hf⟩ := gd_some hf
          refine G_iast h dX9_seen_68 ((w_8_12 hE h0).2) g11 (jx := (ix (((3 : Int32) * (mi (wi M (rr E v0 12) (ix ((3 : Int32) * (mi M v0 4))) v1) v0 4)) + (1 : Int32)))) rfl rfl ?_
          refine G_nmM (fun M12 hM12 => ?_)
          have hf := nm_eq hM12 hf
          refine G_aload_n h dX9_seen_69 (i := 0) rfl rfl rfl ?_
          refine gf_X9_28 h hE dX9_seen_70 h0 rfl ?_
          refine G_iconst h dX9_seen_73 ki_3 rfl ?_
          refine G_aload_n h dX9_seen_74 (i := 0) rfl rfl rfl ?_
          refine gf_X9_79 h dX9_seen_75 h0 rfl ?_
          refine G_imul h dX9_seen_78 rfl ?_
          refine G_iconst h dX9_seen_79 ki_2 rfl ?_
          refine G_iadd h dX9_seen_80 rfl ?_
          refine G_iload_n h dX9_seen_81 (i := 3) rfl rfl rfl ?_
          obtain ⟨g13, hf⟩ := gd_some hf
          refine G_iast h dX9_seen_82 ((w_8_12 hE h0).2) g13 (jx := (ix (((3 : Int32) * (mi M12 v0 4)) + (2 : Int32)))) rfl rfl ?_
          refine G_aload_n h dX9_seen_83 (i := 0) rfl rfl rfl ?_
          refine G_dup h dX9_seen_84 rfl rfl ?_
          refine gf_X9_79 h dX9_seen_85 h0 rfl ?_
          refine G_iconst h dX9_seen_88 ki_1 rfl ?_
          refine G_iadd h dX9_seen_89 rfl ?_
          refine pf_X9_79 h dX9_seen_90 h0 rfl ?_
          refine G_nmM (fun M14 hM14 => ?_)
          have hf := nm_eq hM14 hf
          refine G_aload_n h dX9_seen_93 (i := 0) rfl rfl rfl ?_
          refine gf_X9_79 h dX9_seen_94 h0 rfl ?_
          exact pwI hR dX9_seen_97 hf
        · have hf := it_t c9 hf
          refine G_aload_n h dX9_seen_38 (i := 0) rfl rfl rfl ?_
          obtain ⟨x15, hx15⟩ : ∃ x, x = f_X9_full E M v0 := ⟨_, rfl⟩
          have hf := nm_eq hx15 hf
          refine cl_X9_99 h (ok_X9_full hE _ h0 hx15.symm) dX9_seen_39 h0 (as := []) rfl rfl ⟨rfl, rfl, Nat.le_of_ble_eq_true rfl, Nat.le_of_ble_eq_true rfl⟩ rfl (Nat.le_of_ble_eq_true rfl) ?_
          exact pwI hR dX9_seen_42 hf
      · have hf := it_t c8 hf
        refine G_aload_n h dX9_seen_24 (i := 0) rfl rfl rfl ?_
        obtain ⟨x16, hx16⟩ : ∃ x, x = f_X9_bad E M v0 := ⟨_, rfl⟩
        have hf := nm_eq hx16 hf
        refine cl_X9_95 h (ok_X9_bad hE _ h0 hx16.symm) dX9_seen_25 h0 (as := []) rfl rfl ⟨rfl, rfl, Nat.le_of_ble_eq_true rfl, Nat.le_of_ble_eq_true rfl⟩ rfl (Nat.le_of_ble_eq_true rfl) ?_
        exact pwI hR dX9_seen_28 hf
def rm_X9_slips : Room := { frames := 3, cells := 0, slots := 0, locals := 67 }
def f_X9_slips_L157 (E : Env1) (k98 : Mem → Nat → Int32 → Int32 → Int32 → Int32 → Int32 → Int64 → Int64 → Int32 → (Option (Int32 × Mem))) (k124 : Mem → Nat → Int32 → Int32 → Int32 → Int32 → Int32 → Int64 → Int64 → Int32 → Int32 → Int64 → Int32 → (Option (Int32 × Mem))) (M : Mem) (v0 : Nat) (v1 : Int32) (v2 : Int32) (v3 : Int32) (v4 : Int32) (v5 : Int32) (v6 : Int64) (v8 : Int64) (v10 : Int32) (v12 : Int64) (v14 : Int32) (s0 : Int32) (s1 : Int32) : Option (Int32 × Mem) :=
  nm (v12 * (if (f_X9_has E M v5 v14) = 0 then (1 : Int64) else if (f_X9_has E M v10 v14) = 0 then v3.toInt64 else ((10 : Int32) - v3).toInt64)) fun x5 =>
  k124 M v0 v1 v2 v3 v4 v5 v6 v8 v10 (s1 + s0) x5 (v14 + 1)
set_option maxRecDepth 100000 in
set_option maxHeartbeats 4000000 in
theorem o_X9_slips_L157 {X : Ctx} {l0 : Launch} {E : Env1} (h : Cx X l0 E RX9 cX9_slips (some .int) 15 rm_X9_slips) (hE : WF E) {M' : Mem} {r : Int32} (hR : RetI X E cX9_slips r M') {k98 : Mem → Nat → Int32 → Int32 → Int32 → Int32 → Int32 → Int64 → Int64 → Int32 → (Option (Int32 × Mem))} (hk98 : ∀ (M : Mem) (v0 : Nat) (v1 : Int32) (v2 : Int32) (v3 : Int32) (v4 : Int32) (v5 : Int32) (v6 : Int64) (v8 : Int64) (v10 : Int32), isK E v0 8 → k98 M v0 v1 v2 v3 v4 v5 v6 v8 v10 = some (r, M') → G X E (0, 0) 98 [some (.ref v0), some (.int v1), some (.int v2), some (.int v3), some (.int v4), some (.int v5), some (.long v6), none, some (.long v8), none, some (.int v10), none, none, none, none] [] M) {k124 : Mem → Nat → Int32 → Int32 → Int32 → Int32 → Int32 → Int64 → Int64 → Int32 → Int32 → Int64 → Int32 → (Option (Int32 × Mem))} (hk124 : ∀ (M : Mem) (v0 : Nat) (v1 : Int32) (v2 : Int32) (v3 : Int32) (v4 : Int32) (v5 : Int32) (v6 : Int64) (v8 : Int64) (v10 : Int32) (v11 : Int32) (v12 : Int64) (v14 : Int32), isK E v0 8 → k124 M v0 v1 v2 v3 v4 v5 v6 v8 v10 v11 v12 v14 = some (r, M') → G X E (0, 0) 124 [some (.ref v0), some (.int v1), some (.int v2), some (.int v3), some (.int v4), some (.int v5), some (.long v6), none, some (.long v8), none, some (.int v10), some (.int v11), some (.long v12), none, some (.int v14)] [] M) {M : Mem} {v0 : Nat} {v1 : Int32} {v2 : Int32} {v3 : Int32} {v4 : Int32} {v5 : Int32} {v6 : Int64} {v8 : Int64} {v10 : Int32} {v12 : Int64} {v14 : Int32} {s0 : Int32} {s1 : Int32} (h_v0 : isK E v0 8) (hf : f_X9_slips_L157 E k98 k124 M v0 v1 v2 v3 v4 v5 v6 v8 v10 v12 v14 s0 s1 = some (r, M')) : G X E (0, 0) 157 [some (.ref v0), some (.int v1), some (.int v2), some (.int v3), some (.int v4), some (.int v5), some (.long v6), none, some (.long v8), none, some (.int v10), none, some (.long v12), none, some (.int v14)] [.int s0, .int s1] M := by
  unfold f_X9_slips_L157 at hf
  refine G_iadd h dX9_slips_157 rfl ?_
  refine G_istore h dX9_slips_158  (by decide) (L' := [some (.ref v0), some (.int v1), some (.int v2), some (.int v3), some (.int v4), some (.int v5), some (.long v6), none, some (.long v8), none, some (.int v10), some (.int (s1 + s0)), some (.long v12), none, some (.int v14)]) rfl rfl ?_
  refine G_lload h dX9_slips_160 rfl rfl ?_
  refine G_iload h dX9_slips_162 rfl rfl ?_
  refine G_iload h dX9_slips_164 rfl rfl ?_
  refine cl_X9_189 h (ok_X9_has hE _  (r := f_X9_has E M v5 v14) rfl) dX9_slips_166 (as := [.int v5, .int v14]) rfl rfl ⟨rfl, rfl, Nat.le_of_ble_eq_true rfl, Nat.le_of_ble_eq_true rfl⟩ rfl (Nat.le_of_ble_eq_true rfl) (fun z1 => ?_)
  have hJ : G X E (0, 0) 196 [some (.ref v0), some (.int v1), some (.int v2), some (.int v3), some (.int v4), some (.int v5), some (.long v6), none, some (.long v8), none, some (.int v10), some (.int (s1 + s0)), some (.long v12), none, some (.int v14)] [.long (if (f_X9_has E M v5 v14) = 0 then (1 : Int64) else if (f_X9_has E M v10 v14) = 0 then v3.toInt64 else ((10 : Int32) - v3).toInt64), .long v12] M := by
    refine G_lmul h dX9_slips_196 rfl ?_
    refine G_nml (fun x5 hx5 => ?_)
    have hf := nm_eq hx5 hf
    refine G_lstore h dX9_slips_197  (by decide) (L' := [some (.ref v0), some (.int v1), some (.int v2), some (.int v3), some (.int v4), some (.int v5), some (.long v6), none, some (.long v8), none, some (.int v10), some (.int (s1 + s0)), some (.long x5), none, some (.int v14)]) rfl rfl ?_
    refine G_iinc2 h dX9_slips_199 rfl ki_1 (by decide) (L' := [some (.ref v0), some (.int v1), some (.int v2), some (.int v3), some (.int v4), some (.int v5), some (.long v6), none, some (.long v8), none, some (.int v10), some (.int (s1 + s0)), some (.long x5), none, some (.int (v14 + 1))]) rfl rfl ?_
    refine G_goto h dX9_slips_202 (tgt := 124) (by decide) ?_
    exact hk124 _ _ _ _ _ _ _ _ _ _ _ _ _ h_v0 hf
  refine G_if_ne h dX9_slips_169 (tgt := 176) (by decide) rfl (fun c2 => ?_) (fun c2 => ?_)
  · refine G_iload h dX9_slips_176 rfl rfl ?_
    refine G_iload h dX9_slips_178 rfl rfl ?_
    refine cl_X9_189 h (ok_X9_has hE _  (r := f_X9_has E M v10 v14) rfl) dX9_slips_180 (as := [.int v10, .int v14]) rfl rfl ⟨rfl, rfl, Nat.le_of_ble_eq_true rfl, Nat.le_of_ble_eq_true rfl⟩ rfl (Nat.le_of_ble_eq_true rfl) (fun z3 => ?_)
    refine G_if_eq h dX9_slips_183 (tgt := 194) (by decide) rfl (fun c4 => ?_) (fun c4 => ?_)
    · refine G_iload_n h dX9_slips_194 (i := 3) rfl rfl rfl ?_
      refine G_i2l h dX9_slips_195 rfl ?_
      exact G_ifpl c4 (G_ifnl c2 hJ)
    · refine G_bipush h dX9_slips_186 kb_10 rfl ?_
      refine G_iload_n h dX9_slips_188 (i := 3) rfl rfl rfl ?_
      refine G_isub h dX9_slips_189 rfl ?_
      refine G_i2l h dX9_slips_190 rfl ?_
      refine G_goto h dX9_slips_191 (tgt := 196) (by decide) ?_
      exact G_ifnl c4 (G_ifnl c2 hJ)
  · refine G_lconst h dX9_slips_172 kl_1 rfl ?_
    refine G_goto h dX9_slips_173 (tgt := 196) (by decide) ?_
    exact G_ifpl c2 hJ
def b_X9_slips_L124 (E : Env1) (k98 : Mem → Nat → Int32 → Int32 → Int32 → Int32 → Int32 → Int64 → Int64 → Int32 → (Option (Int32 × Mem))) (k124 : Mem → Nat → Int32 → Int32 → Int32 → Int32 → Int32 → Int64 → Int64 → Int32 → Int32 → Int64 → Int32 → (Option (Int32 × Mem))) (M : Mem) (v0 : Nat) (v1 : Int32) (v2 : Int32) (v3 : Int32) (v4 : Int32) (v5 : Int32) (v6 : Int64) (v8 : Int64) (v10 : Int32) (v11 : Int32) (v12 : Int64) (v14 : Int32) : Option (Int32 × Mem) :=
  if (mi M v0 1) ≤ v14 then (
    gd v1 6 (if (f_X9_has E M (mi M (rr E v0 10) (ix v1)) v2) = 0 then (
      (f_X9_wants E M v0 v1 v2 v4).bind fun x5 =>
      if v11 < x5 then (k98 M v0 v1 v2 v3 v4 v5 (v6 + (0 : Int64)) v8 (v10 + 1))
      else (k98 M v0 v1 v2 v3 v4 v5 (v6 + v12) v8 (v10 + 1)))
    else (k98 M v0 v1 v2 v3 v4 v5 (v6 + v12) v8 (v10 + 1))))
  else (
    if (f_X9_has E M v10 v14) = 0 then (f_X9_slips_L157 E k98 k124 M v0 v1 v2 v3 v4 v5 v6 v8 v10 v12 v14 (0 : Int32) v11)
    else (
      (f_X9_worth E M v0 v14 v4).bind fun x9 =>
      f_X9_slips_L157 E k98 k124 M v0 v1 v2 v3 v4 v5 v6 v8 v10 v12 v14 x9 v11))
set_option maxRecDepth 100000 in
set_option maxHeartbeats 4000000 in
theorem ob_X9_slips_L124 {X : Ctx} {l0 : Launch} {E : Env1} (h : Cx X l0 E RX9 cX9_slips (some .int) 15 rm_X9_slips) (hE : WF E) {M' : Mem} {r : Int32} (hR : RetI X E cX9_slips r M') {k98 : Mem → Nat → Int32 → Int32 → Int32 → Int32 → Int32 → Int64 → Int64 → Int32 → (Option (Int32 × Mem))} (hk98 : ∀ (M : Mem) (v0 : Nat) (v1 : Int32) (v2 : Int32) (v3 : Int32) (v4 : Int32) (v5 : Int32) (v6 : Int64) (v8 : Int64) (v10 : Int32), isK E v0 8 → k98 M v0 v1 v2 v3 v4 v5 v6 v8 v10 = some (r, M') → G X E (0, 0) 98 [some (.ref v0), some (.int v1), some (.int v2), some (.int v3), some (.int v4), some (.int v5), some (.long v6), none, some (.long v8), none, some (.int v10), none, none, none, none] [] M) {k124 : Mem → Nat → Int32 → Int32 → Int32 → Int32 → Int32 → Int64 → Int64 → Int32 → Int32 → Int64 → Int32 → (Option (Int32 × Mem))} (hk124 : ∀ (M : Mem) (v0 : Nat) (v1 : Int32) (v2 : Int32) (v3 : Int32) (v4 : Int32) (v5 : Int32) (v6 : Int64) (v8 : Int64) (v10 : Int32) (v11 : Int32) (v12 : Int64) (v14 : Int32), isK E v0 8 → k124 M v0 v1 v2 v3 v4 v5 v6 v8 v10 v11 v12 v14 = some (r, M') → G X E (0, 0) 124 [some (.ref v0), some (.int v1), some (.int v2), some (.int v3), some (.int v4), some (.int v5), some (.long v6), none, some (.long v8), none, some (.int v10), some (.int v11), some (.long v12), none, some (.int v14)] [] M) {M : Mem} {v0 : Nat} {v1 : Int32} {v2 : Int32} {v3 : Int32} {v4 : Int32} {v5 : Int32} {v6 : Int64} {v8 : Int64} {v10 : Int32} {v11 : Int32} {v12 : Int64} {v14 : Int32} (h_v0 : isK E v0 8) (hf : b_X9_slips_L124 E k98 k124 M v0 v1 v2 v3 v4 v5 v6 v8 v10 v11 v12 v14 = some (r, M')) : G X E (0, 0) 124 [some (.ref v0), some (.int v1), some (.int v2), some (.int v3), some (.int v4), some (.int v5), some (.long v6), none, some (.long v8), none, some (.int v10), some (.int v11), some (.long v12), none, some (.int v14)] [] M := by
  unfold b_X9_slips_L124 at hf
  refine G_iload h dX9_slips_124 rfl rfl ?_
  refine G_aload_n h dX9_slips_126 (i := 0) rfl rfl rfl ?_
  refine gf_X9_69 h dX9_slips_127 h_v0 rfl ?_
  refine G_icmp_ge h dX9_slips_130 (tgt := 205) (by decide) rfl (fun c1 => ?_) (fun c1 => ?_)
  · have hf := it_t c1 hf
    refine G_lload h dX9_slips_205 rfl rfl ?_
    refine G_aload_n h dX9_slips_207 (i := 0) rfl rfl rfl ?_
    refine gf_X9_22 h hE dX9_slips_208 h_v0 rfl ?_
    refine G_iload_n h dX9_slips_211 (i := 1) rfl rfl rfl ?_
    obtain ⟨g2, hf⟩ := gd_some hf
    refine G_iald h dX9_slips_212 ((w_8_10 hE h_v0).2) g2 (jx := (ix v1)) rfl rfl ?_
    refine G_iload_n h dX9_slips_213 (i := 2) rfl rfl rfl ?_
    refine cl_X9_189 h (ok_X9_has hE _  (r := f_X9_has E M (mi M (rr E v0 10) (ix v1)) v2) rfl) dX9_slips_214 (as := [.int (mi M (rr E v0 10) (ix v1)), .int v2]) rfl rfl ⟨rfl, rfl, Nat.le_of_ble_eq_true rfl, Nat.le_of_ble_eq_true rfl⟩ rfl (Nat.le_of_ble_eq_true rfl) (fun z3 => ?_)
    refine G_if_ne h dX9_slips_217 (tgt := 233) (by decide) rfl (fun c4 => ?_) (fun c4 => ?_)
    · have hf := it_f c4 hf
      refine G_lload h dX9_slips_233 rfl rfl ?_
      refine G_goto h dX9_slips_235 (tgt := 239) (by decide) ?_
      refine G_ladd h dX9_slips_239 rfl ?_
      refine G_lstore h dX9_slips_240  (by decide) (L' := [some (.ref v0), some (.int v1), some (.int v2), some (.int v3), some (.int v4), some (.int v5), some (.long (v6 + v12)), none, some (.long v8), none, some (.int v10), some (.int v11), some (.long v12), none, some (.int v14)]) rfl rfl ?_
      refine G_iinc2 h dX9_slips_242 rfl ki_1 (by decide) (L' := [some (.ref v0), some (.int v1), some (.int v2), some (.int v3), some (.int v4), some (.int v5), some (.long (v6 + v12)), none, some (.long v8), none, some (.int (v10 + 1)), some (.int v11), some (.long v12), none, some (.int v14)]) rfl rfl ?_
      refine G_goto h dX9_slips_245 (tgt := 98) (by decide) ?_
      refine G_mskL [true, true, true, true, true, true, true, false, true, false, true, false, false, false, false] (L' := [some (.ref v0), some (.int v1), some (.int v2), some (.int v3), some (.int v4), some (.int v5), some (.long (v6 + v12)), none, some (.long v8), none, some (.int (v10 + 1)), none, none, none, none]) rfl ?_
      exact hk98 _ _ _ _ _ _ _ _ _ _ h_v0 hf
    · have hf := it_t c4 hf
      refine G_iload h dX9_slips_220 rfl rfl ?_
      refine G_aload_n h dX9_slips_222 (i := 0) rfl rfl rfl ?_
      refine G_iload_n h dX9_slips_223 (i := 1) rfl rfl rfl ?_
      refine G_iload_n h dX9_slips_224 (i := 2) rfl rfl rfl ?_
      refine G_iload h dX9_slips_225 rfl rfl ?_
      obtain ⟨x5, hx5, hf⟩ := bd hf
      refine cl_X9_198 h (ok_X9_wants hE _ h_v0 hx5) dX9_slips_227 h_v0 (as := [.int v1, .int v2, .int v4]) rfl rfl ⟨rfl, rfl, Nat.le_of_ble_eq_true rfl, Nat.le_of_ble_eq_true rfl⟩ rfl (Nat.le_of_ble_eq_true rfl) ?_
      refine G_icmp_lt h dX9_slips_230 (tgt := 238) (by decide) rfl (fun c6 => ?_) (fun c6 => ?_)
      · have hf := it_t c6 hf
        refine G_lconst h dX9_slips_238 kl_0 rfl ?_
        refine G_ladd h dX9_slips_239 rfl ?_
        refine G_lstore h dX9_slips_240  (by decide) (L' := [some (.ref v0), some (.int v1), some (.int v2), some (.int v3), some (.int v4), some (.int v5), some (.long (v6 + (0 : Int64))), none, some (.long v8), none, some (.int v10), some (.int v11), some (.long v12), none, some (.int v14)]) rfl rfl ?_
        refine G_iinc2 h dX9_slips_242 rfl ki_1 (by decide) (L' := [some (.ref v0), some (.int v1), some (.int v2), some (.int v3), some (.int v4), some (.int v5), some (.long (v6 + (0 : Int64))), none, some (.long v8), none, some (.int (v10 + 1)), some (.int v11), some (.long v12), none, some (.int v14)]) rfl rfl ?_
        refine G_goto h dX9_slips_245 (tgt := 98) (by decide) ?_
        refine G_mskL [true, true, true, true, true, true, true, false, true, false, true, false, false, false, false] (L' := [some (.ref v0), some (.int v1), some (.int v2), some (.int v3), some (.int v4), some (.int v5), some (.long (v6 + (0 : Int64))), none, some (.long v8), none, some (.int (v10 + 1)), none, none, none, none]) rfl ?_
        exact hk98 _ _ _ _ _ _ _ _ _ _ h_v0 hf
      · have hf := it_f c6 hf
        refine G_lload h dX9_slips_233 rfl rfl ?_
        refine G_goto h dX9_slips_235 (tgt := 239) (by decide) ?_
        refine G_ladd h dX9_slips_239 rfl ?_
        refine G_lstore h dX9_slips_240  (by decide) (L' := [some (.ref v0), some (.int v1), some (.int v2), some (.int v3), some (.int v4), some (.int v5), some (.long (v6 + v12)), none, some (.long v8), none, some (.int v10), some (.int v11), some (.long v12), none, some (.int v14)]) rfl rfl ?_
        refine G_iinc2 h dX9_slips_242 rfl ki_1 (by decide) (L' := [some (.ref v0), some (.int v1), some (.int v2), some (.int v3), some (.int v4), some (.int v5), some (.long (v6 + v12)), none, some (.long v8), none, some (.int (v10 + 1)), some (.int v11), some (.long v12), none, some (.int v14)]) rfl rfl ?_
        refine G_goto h dX9_slips_245 (tgt := 98) (by decide) ?_
        refine G_mskL [true, true, true, true, true, true, true, false, true, false, true, false, false, false, false] (L' := [some (.ref v0), some (.int v1), some (.int v2), some (.int v3), some (.int v4), some (.int v5), some (.long (v6 + v12)), none, some (.long v8), none, some (.int (v10 + 1)), none, none, none, none]) rfl ?_
        exact hk98 _ _ _ _ _ _ _ _ _ _ h_v0 hf
  · have hf := it_f c1 hf
    refine G_iload h dX9_slips_133 rfl rfl ?_
    refine G_iload h dX9_slips_135 rfl rfl ?_
    refine G_iload h dX9_slips_137 rfl rfl ?_
    refine cl_X9_189 h (ok_X9_has hE _  (r := f_X9_has E M v10 v14) rfl) dX9_slips_139 (as := [.int v10, .int v14]) rfl rfl ⟨rfl, rfl, Nat.le_of_ble_eq_true rfl, Nat.le_of_ble_eq_true rfl⟩ rfl (Nat.le_of_ble_eq_true rfl) (fun z7 => ?_)
    refine G_if_eq h dX9_slips_142 (tgt := 156) (by decide) rfl (fun c8 => ?_) (fun c8 => ?_)
    · have hf := it_t c8 hf
      refine G_iconst h dX9_slips_156 ki_0 rfl ?_
      refine G_mskL [true, true, true, true, true, true, true, false, true, false, true, false, true, false, true] (L' := [some (.ref v0), some (.int v1), some (.int v2), some (.int v3), some (.int v4), some (.int v5), some (.long v6), none, some (.long v8), none, some (.int v10), none, some (.long v12), none, some (.int v14)]) rfl ?_
      exact o_X9_slips_L157 h hE hR hk98 hk124 h_v0 hf
    · have hf := it_f c8 hf
      refine G_aload_n h dX9_slips_145 (i := 0) rfl rfl rfl ?_
      refine G_iload h dX9_slips_146 rfl rfl ?_
      refine G_iload h dX9_slips_148 rfl rfl ?_
      obtain ⟨x9, hx9, hf⟩ := bd hf
      refine cl_X9_192 h (ok_X9_worth hE _ h_v0 hx9) dX9_slips_150 h_v0 (as := [.int v14, .int v4]) rfl rfl ⟨rfl, rfl, Nat.le_of_ble_eq_true rfl, Nat.le_of_ble_eq_true rfl⟩ rfl (Nat.le_of_ble_eq_true rfl) ?_
      refine G_goto h dX9_slips_153 (tgt := 157) (by decide) ?_
      refine G_mskL [true, true, true, true, true, true, true, false, true, false, true, false, true, false, true] (L' := [some (.ref v0), some (.int v1), some (.int v2), some (.int v3), some (.int v4), some (.int v5), some (.long v6), none, some (.long v8), none, some (.int v10), none, some (.long v12), none, some (.int v14)]) rfl ?_
      exact o_X9_slips_L157 h hE hR hk98 hk124 h_v0 hf
def f_X9_slips_L124 (E : Env1) (k98 : Mem → Nat → Int32 → Int32 → Int32 → Int32 → Int32 → Int64 → Int64 → Int32 → (Option (Int32 × Mem))) : Nat → Mem → Nat → Int32 → Int32 → Int32 → Int32 → Int32 → Int64 → Int64 → Int32 → Int32 → Int64 → Int32 → (Option (Int32 × Mem))
  | 0 => fun _ _ _ _ _ _ _ _ _ _ _ _ _ => none
  | n + 1 => b_X9_slips_L124 E k98 (f_X9_slips_L124 E k98 n)
theorem o_X9_slips_L124 {X : Ctx} {l0 : Launch} {E : Env1} (h : Cx X l0 E RX9 cX9_slips (some .int) 15 rm_X9_slips) (hE : WF E) {M' : Mem} {r : Int32} (hR : RetI X E cX9_slips r M') {k98 : Mem → Nat → Int32 → Int32 → Int32 → Int32 → Int32 → Int64 → Int64 → Int32 → (Option (Int32 × Mem))} (hk98 : ∀ (M : Mem) (v0 : Nat) (v1 : Int32) (v2 : Int32) (v3 : Int32) (v4 : Int32) (v5 : Int32) (v6 : Int64) (v8 : Int64) (v10 : Int32), isK E v0 8 → k98 M v0 v1 v2 v3 v4 v5 v6 v8 v10 = some (r, M') → G X E (0, 0) 98 [some (.ref v0), some (.int v1), some (.int v2), some (.int v3), some (.int v4), some (.int v5), some (.long v6), none, some (.long v8), none, some (.int v10), none, none, none, none] [] M) : ∀ (n : Nat) (M : Mem) (v0 : Nat) (v1 : Int32) (v2 : Int32) (v3 : Int32) (v4 : Int32) (v5 : Int32) (v6 : Int64) (v8 : Int64) (v10 : Int32) (v11 : Int32) (v12 : Int64) (v14 : Int32), isK E v0 8 → f_X9_slips_L124 E k98 n M v0 v1 v2 v3 v4 v5 v6 v8 v10 v11 v12 v14 = some (r, M') → G X E (0, 0) 124 [some (.ref v0), some (.int v1), some (.int v2), some (.int v3), some (.int v4), some (.int v5), some (.long v6), none, some (.long v8), none, some (.int v10), some (.int v11), some (.long v12), none, some (.int v14)] [] M := by
  intro n
  induction n with
  | zero =>
    intro _ _ _ _ _ _ _ _ _ _ _ _ _ a0 hf
    have h0 : (none : Option (Int32 × Mem)) = some (r, M') := hf
    cases h0
  | succ n ih =>
    intro _ _ _ _ _ _ _ _ _ _ _ _ _ a0 hf
    exact ob_X9_slips_L124 h hE hR hk98 ih a0 hf
def b_X9_slips_L98 (E : Env1) (k98 : Mem → Nat → Int32 → Int32 → Int32 → Int32 → Int32 → Int64 → Int64 → Int32 → (Option (Int32 × Mem))) (M : Mem) (v0 : Nat) (v1 : Int32) (v2 : Int32) (v3 : Int32) (v4 : Int32) (v5 : Int32) (v6 : Int64) (v8 : Int64) (v10 : Int32) : Option (Int32 × Mem) :=
  if v5 < v10 then (
    (f_X9_lay E M v0 v6 v8).bind fun x2 =>
    some ((1 : Int32), x2))
  else (
    if (v10 &&& (v5 ^^^ (-1 : Int32))) = 0 then (f_X9_slips_L124 E k98 FU M v0 v1 v2 v3 v4 v5 v6 v8 v10 (0 : Int32) (1 : Int64) (0 : Int32))
    else (k98 M v0 v1 v2 v3 v4 v5 v6 v8 (v10 + 1)))
set_option maxRecDepth 100000 in
set_option maxHeartbeats 4000000 in
theorem ob_X9_slips_L98 {X : Ctx} {l0 : Launch} {E : Env1} (h : Cx X l0 E RX9 cX9_slips (some .int) 15 rm_X9_slips) (hE : WF E) {M' : Mem} {r : Int32} (hR : RetI X E cX9_slips r M') {k98 : Mem → Nat → Int32 → Int32 → Int32 → Int32 → Int32 → Int64 → Int64 → Int32 → (Option (Int32 × Mem))} (hk98 : ∀ (M : Mem) (v0 : Nat) (v1 : Int32) (v2 : Int32) (v3 : Int32) (v4 : Int32) (v5 : Int32) (v6 : Int64) (v8 : Int64) (v10 : Int32), isK E v0 8 → k98 M v0 v1 v2 v3 v4 v5 v6 v8 v10 = some (r, M') → G X E (0, 0) 98 [some (.ref v0), some (.int v1), some (.int v2), some (.int v3), some (.int v4), some (.int v5), some (.long v6), none, some (.long v8), none, some (.int v10), none, none, none, none] [] M) {M : Mem} {v0 : Nat} {v1 : Int32} {v2 : Int32} {v3 : Int32} {v4 : Int32} {v5 : Int32} {v6 : Int64} {v8 : Int64} {v10 : Int32} (h_v0 : isK E v0 8) (hf : b_X9_slips_L98 E k98 M v0 v1 v2 v3 v4 v5 v6 v8 v10 = some (r, M')) : G X E (0, 0) 98 [some (.ref v0), some (.int v1), some (.int v2), some (.int v3), some (.int v4), some (.int v5), some (.long v6), none, some (.long v8), none, some (.int v10), none, none, none, none] [] M := by
  unfold b_X9_slips_L98 at hf
  refine G_iload h dX9_slips_98 rfl rfl ?_
  refine G_iload h dX9_slips_100 rfl rfl ?_
  refine G_icmp_gt h dX9_slips_102 (tgt := 248) (by decide) rfl (fun c1 => ?_) (fun c1 => ?_)
  · have hf := it_t c1 hf
    refine G_aload_n h dX9_slips_248 (i := 0) rfl rfl rfl ?_
    refine G_lload h dX9_slips_249 rfl rfl ?_
    refine G_lload h dX9_slips_251 rfl rfl ?_
    obtain ⟨x2, hx2, hf⟩ := bd hf
    refine cl_X9_279 h (ok_X9_lay hE _ h_v0 hx2) dX9_slips_253 h_v0 (as := [.long v6, .long v8]) rfl rfl ⟨rfl, rfl, Nat.le_of_ble_eq_true rfl, Nat.le_of_ble_eq_true rfl⟩ rfl (Nat.le_of_ble_eq_true rfl) ?_
    refine G_iconst h dX9_slips_256 ki_1 rfl ?_
    exact pwI hR dX9_slips_257 hf
  · have hf := it_f c1 hf
    refine G_iload h dX9_slips_105 rfl rfl ?_
    refine G_iload h dX9_slips_107 rfl rfl ?_
    refine G_iconst h dX9_slips_109 ki_m1 rfl ?_
    refine G_ixor h dX9_slips_110 rfl ?_
    refine G_iand h dX9_slips_111 rfl ?_
    refine G_if_ne h dX9_slips_112 (tgt := 242) (by decide) rfl (fun c3 => ?_) (fun c3 => ?_)
    · have hf := it_f c3 hf
      refine G_iinc2 h dX9_slips_242 rfl ki_1 (by decide) (L' := [some (.ref v0), some (.int v1), some (.int v2), some (.int v3), some (.int v4), some (.int v5), some (.long v6), none, some (.long v8), none, some (.int (v10 + 1)), none, none, none, none]) rfl rfl ?_
      refine G_goto h dX9_slips_245 (tgt := 98) (by decide) ?_
      exact hk98 _ _ _ _ _ _ _ _ _ _ h_v0 hf
    · have hf := it_t c3 hf
      refine G_iconst h dX9_slips_115 ki_0 rfl ?_
      refine G_istore h dX9_slips_116  (by decide) (L' := [some (.ref v0), some (.int v1), some (.int v2), some (.int v3), some (.int v4), some (.int v5), some (.long v6), none, some (.long v8), none, some (.int v10), some (.int (0 : Int32)), none, none, none]) rfl rfl ?_
      refine G_lconst h dX9_slips_118 kl_1 rfl ?_
      refine G_lstore h dX9_slips_119  (by decide) (L' := [some (.ref v0), some (.int v1), some (.int v2), some (.int v3), some (.int v4), some (.int v5), some (.long v6), none, some (.long v8), none, some (.int v10), some (.int (0 : Int32)), some (.long (1 : Int64)), none, none]) rfl rfl ?_
      refine G_iconst h dX9_slips_121 ki_0 rfl ?_
      refine G_istore h dX9_slips_122  (by decide) (L' := [some (.ref v0), some (.int v1), some (.int v2), some (.int v3), some (.int v4), some (.int v5), some (.long v6), none, some (.long v8), none, some (.int v10), some (.int (0 : Int32)), some (.long (1 : Int64)), none, some (.int (0 : Int32))]) rfl rfl ?_
      exact o_X9_slips_L124 h hE hR hk98 FU _ _ _ _ _ _ _ _ _ _ _ _ _ h_v0 hf
def f_X9_slips_L98 (E : Env1) : Nat → Mem → Nat → Int32 → Int32 → Int32 → Int32 → Int32 → Int64 → Int64 → Int32 → (Option (Int32 × Mem))
  | 0 => fun _ _ _ _ _ _ _ _ _ _ => none
  | n + 1 => b_X9_slips_L98 E (f_X9_slips_L98 E n)
theorem o_X9_slips_L98 {X : Ctx} {l0 : Launch} {E : Env1} (h : Cx X l0 E RX9 cX9_slips (some .int) 15 rm_X9_slips) (hE : WF E) {M' : Mem} {r : Int32} (hR : RetI X E cX9_slips r M') : ∀ (n : Nat) (M : Mem) (v0 : Nat) (v1 : Int32) (v2 : Int32) (v3 : Int32) (v4 : Int32) (v5 : Int32) (v6 : Int64) (v8 : Int64) (v10 : Int32), isK E v0 8 → f_X9_slips_L98 E n M v0 v1 v2 v3 v4 v5 v6 v8 v10 = some (r, M') → G X E (0, 0) 98 [some (.ref v0), some (.int v1), some (.int v2), some (.int v3), some (.int v4), some (.int v5), some (.long v6), none, some (.long v8), none, some (.int v10), none, none, none, none] [] M := by
  intro n
  induction n with
  | zero =>
    intro _ _ _ _ _ _ _ _ _ _ a0 hf
    have h0 : (none : Option (Int32 × Mem)) = some (r, M') := hf
    cases h0
  | succ n ih =>
    intro _ _ _ _ _ _ _ _ _ _ a0 hf
    exact ob_X9_slips_L98 h hE hR  ih a0 hf
def b_X9_slips_L58 (E : Env1) (k58 : Mem → Nat → Int32 → Int32 → Int32 → Int32 → Int32 → Int64 → Int64 → Int32 → (Option (Int32 × Mem))) (M : Mem) (v0 : Nat) (v1 : Int32) (v2 : Int32) (v3 : Int32) (v4 : Int32) (v5 : Int32) (v6 : Int64) (v8 : Int64) (v10 : Int32) : Option (Int32 × Mem) :=
  if (mi M v0 1) ≤ v10 then (f_X9_slips_L98 E FU M v0 v1 v2 v3 v4 v5 v6 v8 (0 : Int32))
  else (
    nm (v8 * (if (f_X9_has E M v5 v10) = 0 then (1 : Int64) else (10 : Int64))) fun x4 =>
    k58 M v0 v1 v2 v3 v4 v5 v6 x4 (v10 + 1))
set_option maxRecDepth 100000 in
set_option maxHeartbeats 4000000 in
theorem ob_X9_slips_L58 {X : Ctx} {l0 : Launch} {E : Env1} (h : Cx X l0 E RX9 cX9_slips (some .int) 15 rm_X9_slips) (hE : WF E) {M' : Mem} {r : Int32} (hR : RetI X E cX9_slips r M') {k58 : Mem → Nat → Int32 → Int32 → Int32 → Int32 → Int32 → Int64 → Int64 → Int32 → (Option (Int32 × Mem))} (hk58 : ∀ (M : Mem) (v0 : Nat) (v1 : Int32) (v2 : Int32) (v3 : Int32) (v4 : Int32) (v5 : Int32) (v6 : Int64) (v8 : Int64) (v10 : Int32), isK E v0 8 → k58 M v0 v1 v2 v3 v4 v5 v6 v8 v10 = some (r, M') → G X E (0, 0) 58 [some (.ref v0), some (.int v1), some (.int v2), some (.int v3), some (.int v4), some (.int v5), some (.long v6), none, some (.long v8), none, some (.int v10), none, none, none, none] [] M) {M : Mem} {v0 : Nat} {v1 : Int32} {v2 : Int32} {v3 : Int32} {v4 : Int32} {v5 : Int32} {v6 : Int64} {v8 : Int64} {v10 : Int32} (h_v0 : isK E v0 8) (hf : b_X9_slips_L58 E k58 M v0 v1 v2 v3 v4 v5 v6 v8 v10 = some (r, M')) : G X E (0, 0) 58 [some (.ref v0), some (.int v1), some (.int v2), some (.int v3), some (.int v4), some (.int v5), some (.long v6), none, some (.long v8), none, some (.int v10), none, none, none, none] [] M := by
  unfold b_X9_slips_L58 at hf
  refine G_iload h dX9_slips_58 rfl rfl ?_
  refine G_aload_n h dX9_slips_60 (i := 0) rfl rfl rfl ?_
  refine gf_X9_69 h dX9_slips_61 h_v0 rfl ?_
  refine G_icmp_ge h dX9_slips_64 (tgt := 95) (by decide) rfl (fun c1 => ?_) (fun c1 => ?_)
  · have hf := it_t c1 hf
    refine G_iconst h dX9_slips_95 ki_0 rfl ?_
    refine G_istore h dX9_slips_96  (by decide) (L' := [some (.ref v0), some (.int v1), some (.int v2), some (.int v3), some (.int v4), some (.int v5), some (.long v6), none, some (.long v8), none, some (.int (0 : Int32)), none, none, none, none]) rfl rfl ?_
    exact o_X9_slips_L98 h hE hR  FU _ _ _ _ _ _ _ _ _ _ h_v0 hf
  · have hf := it_f c1 hf
    refine G_lload h dX9_slips_67 rfl rfl ?_
    refine G_iload h dX9_slips_69 rfl rfl ?_
    refine G_iload h dX9_slips_71 rfl rfl ?_
    refine cl_X9_189 h (ok_X9_has hE _  (r := f_X9_has E M v5 v10) rfl) dX9_slips_73 (as := [.int v5, .int v10]) rfl rfl ⟨rfl, rfl, Nat.le_of_ble_eq_true rfl, Nat.le_of_ble_eq_true rfl⟩ rfl (Nat.le_of_ble_eq_true rfl) (fun z2 => ?_)
    have hJ : G X E (0, 0) 86 [some (.ref v0), some (.int v1), some (.int v2), some (.int v3), some (.int v4), some (.int v5), some (.long v6), none, some (.long v8), none, some (.int v10), none, none, none, none] [.long (if (f_X9_has E M v5 v10) = 0 then (1 : Int64) else (10 : Int64)), .long v8] M := by
      refine G_lmul h dX9_slips_86 rfl ?_
      refine G_nml (fun x4 hx4 => ?_)
      have hf := nm_eq hx4 hf
      refine G_lstore h dX9_slips_87  (by decide) (L' := [some (.ref v0), some (.int v1), some (.int v2), some (.int v3), some (.int v4), some (.int v5), some (.long v6), none, some (.long x4), none, some (.int v10), none, none, none, none]) rfl rfl ?_
      refine G_iinc2 h dX9_slips_89 rfl ki_1 (by decide) (L' := [some (.ref v0), some (.int v1), some (.int v2), some (.int v3), some (.int v4), some (.int v5), some (.long v6), none, some (.long x4), none, some (.int (v10 + 1)), none, none, none, none]) rfl rfl ?_
      refine G_goto h dX9_slips_92 (tgt := 58) (by decide) ?_
      exact hk58 _ _ _ _ _ _ _ _ _ _ h_v0 hf
    refine G_if_eq h dX9_slips_76 (tgt := 85) (by decide) rfl (fun c3 => ?_) (fun c3 => ?_)
    · refine G_lconst h dX9_slips_85 kl_1 rfl ?_
      exact G_ifpl c3 hJ
    · refine G_ldc2 h q1345 dX9_slips_79 rfl ?_
      refine G_goto h dX9_slips_82 (tgt := 86) (by decide) ?_
      exact G_ifnl c3 hJ
def f_X9_slips_L58 (E : Env1) : Nat → Mem → Nat → Int32 → Int32 → Int32 → Int32 → Int32 → Int64 → Int64 → Int32 → (Option (Int32 × Mem))
  | 0 => fun _ _ _ _ _ _ _ _ _ _ => none
  | n + 1 => b_X9_slips_L58 E (f_X9_slips_L58 E n)
theorem o_X9_slips_L58 {X : Ctx} {l0 : Launch} {E : Env1} (h : Cx X l0 E RX9 cX9_slips (some .int) 15 rm_X9_slips) (hE : WF E) {M' : Mem} {r : Int32} (hR : RetI X E cX9_slips r M') : ∀ (n : Nat) (M : Mem) (v0 : Nat) (v1 : Int32) (v2 : Int32) (v3 : Int32) (v4 : Int32) (v5 : Int32) (v6 : Int64) (v8 : Int64) (v10 : Int32), isK E v0 8 → f_X9_slips_L58 E n M v0 v1 v2 v3 v4 v5 v6 v8 v10 = some (r, M') → G X E (0, 0) 58 [some (.ref v0), some (.int v1), some (.int v2), some (.int v3), some (.int v4), some (.int v5), some (.long v6), none, some (.long v8), none, some (.int v10), none, none, none, none] [] M := by
  intro n
  induction n with
  | zero =>
    intro _ _ _ _ _ _ _ _ _ _ a0 hf
    have h0 : (none : Option (Int32 × Mem)) = some (r, M') := hf
    cases h0
  | succ n ih =>
    intro _ _ _ _ _ _ _ _ _ _ a0 hf
    exact ob_X9_slips_L58 h hE hR  ih a0 hf
def f_X9_slips (E : Env1) (M : Mem) (v0 : Nat) (v1 : Int32) (v2 : Int32) (v3 : Int32) : Option (Int32 × Mem) :=
  if (f_X9_isOne E M v0 v1) = 0 then (
    nm (f_X9_bad E M v0) fun x3 =>
    some (x3.1, x3.2))
  else (
    if (f_X9_isStep E M v2) = 0 then (
      nm (f_X9_bad E M v0) fun x6 =>
      some (x6.1, x6.2))
    else (
      if (f_X9_in E M v3 (0 : Int32) (10 : Int32)) = 0 then (
        nm (f_X9_bad E M v0) fun x11 =>
        some (x11.1, x11.2))
      else (
        (f_X9_whoKnows E M v0 v2).bind fun x9 =>
        nm (x9 &&& (((1 : Int32) <<< (v1 &&& 31)) ^^^ (-1 : Int32))) fun x10 =>
        f_X9_slips_L58 E FU M v0 v1 v2 v3 (f_X9_dayMinute E M v0) x10 (0 : Int64) (1 : Int64) (0 : Int32))))
set_option maxRecDepth 100000 in
set_option maxHeartbeats 4000000 in
theorem ok_X9_slips {E : Env1} (hE : WF E) (l0 : Launch) {M : Mem} {M' : Mem} {v0 : Nat} {v1 : Int32} {v2 : Int32} {v3 : Int32} {r : Int32} (h0 : isK E v0 8) (hf : f_X9_slips E M v0 v1 v2 v3 = some (r, M')) : Met l0 yX9_slips (wsA yX9_slips cX9_slips 15 (some .int)) rm_X9_slips (CP E M [.ref v0, .int v1, .int v2, .int v3]) (CQi E r M') 0 0 (eA E) := by
  unfold f_X9_slips at hf
  refine mtI l0 (by decide +kernel) (Nat.le_of_ble_eq_true rfl) (L0 := [some (.ref v0), some (.int v1), some (.int v2), some (.int v3), none, none, none, none, none, none, none, none, none, none, none]) rfl (fun X h hR => ?_)
  refine G_aload_n h dX9_slips_0 (i := 0) rfl rfl rfl ?_
  refine G_iload_n h dX9_slips_1 (i := 1) rfl rfl rfl ?_
  refine cl_X9_216 h (ok_X9_isOne hE _ h0 (r := f_X9_isOne E M v0 v1) rfl) dX9_slips_2 h0 (as := [.int v1]) rfl rfl ⟨rfl, rfl, Nat.le_of_ble_eq_true rfl, Nat.le_of_ble_eq_true rfl⟩ rfl (Nat.le_of_ble_eq_true rfl) (fun z1 => ?_)
  refine G_if_eq h dX9_slips_5 (tgt := 25) (by decide) rfl (fun c2 => ?_) (fun c2 => ?_)
  · have hf := it_t c2 hf
    refine G_aload_n h dX9_slips_25 (i := 0) rfl rfl rfl ?_
    obtain ⟨x3, hx3⟩ : ∃ x, x = f_X9_bad E M v0 := ⟨_, rfl⟩
    have hf := nm_eq hx3 hf
    refine cl_X9_95 h (ok_X9_bad hE _ h0 hx3.symm) dX9_slips_26 h0 (as := []) rfl rfl ⟨rfl, rfl, Nat.le_of_ble_eq_true rfl, Nat.le_of_ble_eq_true rfl⟩ rfl (Nat.le_of_ble_eq_true rfl) ?_
    exact pwI hR dX9_slips_29 hf
  · have hf := it_f c2 hf
    refine G_iload_n h dX9_slips_8 (i := 2) rfl rfl rfl ?_
    refine cl_X9_219 h (ok_X9_isStep hE _  (r := f_X9_isStep E M v2) rfl) dX9_slips_9 (as := [.int v2]) rfl rfl ⟨rfl, rfl, Nat.le_of_ble_eq_true rfl, Nat.le_of_ble_eq_true rfl⟩ rfl (Nat.le_of_ble_eq_true rfl) (fun z4 => ?_)
    refine G_if_eq h dX9_slips_12 (tgt := 25) (by decide) rfl (fun c5 => ?_) (fun c5 => ?_)
    · have hf := it_t c5 hf
      refine G_aload_n h dX9_slips_25 (i := 0) rfl rfl rfl ?_
      obtain ⟨x6, hx6⟩ : ∃ x, x = f_X9_bad E M v0 := ⟨_, rfl⟩
      have hf := nm_eq hx6 hf
      refine cl_X9_95 h (ok_X9_bad hE _ h0 hx6.symm) dX9_slips_26 h0 (as := []) rfl rfl ⟨rfl, rfl, Nat.le_of_ble_eq_true rfl, Nat.le_of_ble_eq_true rfl⟩ rfl (Nat.le_of_ble_eq_true rfl) ?_
      exact pwI hR dX9_slips_29 hf
    · have hf := it_f c5 hf
      refine G_iload_n h dX9_slips_15 (i := 3) rfl rfl rfl ?_
      refine G_iconst h dX9_slips_16 ki_0 rfl ?_
      refine G_bipush h dX9_slips_17 kb_10 rfl ?_
      refine cl_X9_91 h (ok_X9_in hE _  (r := f_X9_in E M v3 (0 : Int32) (10 : Int32)) rfl) dX9_slips_19 (as := [.int v3, .int (0 : Int32), .int (10 : Int32)]) rfl rfl ⟨rfl, rfl, Nat.le_of_ble_eq_true rfl, Nat.le_of_ble_eq_true rfl⟩ rfl (Nat.le_of_ble_eq_true rfl) (fun z7 => ?_)
      refine G_if_ne h dX9_slips_22 (tgt := 30) (by decide) rfl (fun c8 => ?_) (fun c8 => ?_)
      · have hf := it_f c8 hf
        refine G_aload_n h dX9_slips_30 (i := 0) rfl rfl rfl ?_
        refine cl_X9_210 h (ok_X9_dayMinute hE _ h0 (r := f_X9_dayMinute E M v0) rfl) dX9_slips_31 h0 (as := []) rfl rfl ⟨rfl, rfl, Nat.le_of_ble_eq_true rfl, Nat.le_of_ble_eq_true rfl⟩ rfl (Nat.le_of_ble_eq_true rfl) ?_
        refine G_istore h dX9_slips_34  (by decide) (L' := [some (.ref v0), some (.int v1), some (.int v2), some (.int v3), some (.int (f_X9_dayMinute E M v0)), none, none, none, none, none, none, none, none, none, none]) rfl rfl ?_
        refine G_aload_n h dX9_slips_36 (i := 0) rfl rfl rfl ?_
        refine G_iload_n h dX9_slips_37 (i := 2) rfl rfl rfl ?_
        obtain ⟨x9, hx9, hf⟩ := bd hf
        refine cl_X9_238 h (ok_X9_whoKnows hE _ h0 hx9) dX9_slips_38 h0 (as := [.int v2]) rfl rfl ⟨rfl, rfl, Nat.le_of_ble_eq_true rfl, Nat.le_of_ble_eq_true rfl⟩ rfl (Nat.le_of_ble_eq_true rfl) ?_
        refine G_iconst h dX9_slips_41 ki_1 rfl ?_
        refine G_iload_n h dX9_slips_42 (i := 1) rfl rfl rfl ?_
        refine G_ishl h dX9_slips_43 rfl ?_
        refine G_iconst h dX9_slips_44 ki_m1 rfl ?_
        refine G_ixor h dX9_slips_45 rfl ?_
        refine G_iand h dX9_slips_46 rfl ?_
        refine G_nmi (fun x10 hx10 => ?_)
        have hf := nm_eq hx10 hf
        refine G_istore h dX9_slips_47  (by decide) (L' := [some (.ref v0), some (.int v1), some (.int v2), some (.int v3), some (.int (f_X9_dayMinute E M v0)), some (.int x10), none, none, none, none, none, none, none, none, none]) rfl rfl ?_
        refine G_lconst h dX9_slips_49 kl_0 rfl ?_
        refine G_lstore h dX9_slips_50  (by decide) (L' := [some (.ref v0), some (.int v1), some (.int v2), some (.int v3), some (.int (f_X9_dayMinute E M v0)), some (.int x10), some (.long (0 : Int64)), none, none, none, none, none, none, none, none]) rfl rfl ?_
        refine G_lconst h dX9_slips_52 kl_1 rfl ?_
        refine G_lstore h dX9_slips_53  (by decide) (L' := [some (.ref v0), some (.int v1), some (.int v2), some (.int v3), some (.int (f_X9_dayMinute E M v0)), some (.int x10), some (.long (0 : Int64)), none, some (.long (1 : Int64)), none, none, none, none, none, none]) rfl rfl ?_
        refine G_iconst h dX9_slips_55 ki_0 rfl ?_
        refine G_istore h dX9_slips_56  (by decide) (L' := [some (.ref v0), some (.int v1), some (.int v2), some (.int v3), some (.int (f_X9_dayMinute E M v0)), some (.int x10), some (.long (0 : Int64)), none, some (.long (1 : Int64)), none, some (.int (0 : Int32)), none, none, none, none]) rfl rfl ?_
        exact o_X9_slips_L58 h hE hR  FU _ _ _ _ _ _ _ _ _ _ h0 hf
      · have hf := it_t c8 hf
        refine G_aload_n h dX9_slips_25 (i := 0) rfl rfl rfl ?_
        obtain ⟨x11, hx11⟩ : ∃ x, x = f_X9_bad E M v0 := ⟨_, rfl⟩
        have hf := nm_eq hx11 hf
        refine cl_X9_95 h (ok_X9_bad hE _ h0 hx11.symm) dX9_slips_26 h0 (as := []) rfl rfl ⟨rfl, rfl, Nat.le_of_ble_eq_true rfl, Nat.le_of_ble_eq_true rfl⟩ rfl (Nat.le_of_ble_eq_true rfl) ?_
        exact pwI hR dX9_slips_29 hf
def rm_X9_status : Room := { frames := 1, cells := 0, slots := 0, locals := 22 }
def f_X9_status (E : Env1) (M : Mem) (v0 : Nat) (v1 : Int32) : Option (Int32 × Mem) :=
  if (f_X9_in E M v1 (0 : Int32) (2 : Int32)) = 0 then (some ((-1 : Int32), wi M (rr E v0 0) 0 ((mi M (rr E v0 0) 0) + (1 : Int32))))
  else (gd v1 3 (some (mi M (rr E v0 0) (ix v1), M)))
set_option maxRecDepth 100000 in
set_option maxHeartbeats 4000000 in
theorem ok_X9_status {E : Env1} (hE : WF E) (l0 : Launch) {M : Mem} {M' : Mem} {v0 : Nat} {v1 : Int32} {r : Int32} (h0 : isK E v0 8) (hf : f_X9_status E M v0 v1 = some (r, M')) : Met l0 yX9_status (wsA yX9_status cX9_status 2 (some .int)) rm_X9_status (CP E M [.ref v0, .int v1]) (CQi E r M') 0 0 (eA E) := by
  unfold f_X9_status at hf
  refine mtI l0 (by decide +kernel) (Nat.le_of_ble_eq_true rfl) (L0 := [some (.ref v0), some (.int v1)]) rfl (fun X h hR => ?_)
  refine G_iload_n h dX9_status_0 (i := 1) rfl rfl rfl ?_
  refine G_iconst h dX9_status_1 ki_0 rfl ?_
  refine G_iconst h dX9_status_2 ki_2 rfl ?_
  refine cl_X9_91 h (ok_X9_in hE _  (r := f_X9_in E M v1 (0 : Int32) (2 : Int32)) rfl) dX9_status_3 (as := [.int v1, .int (0 : Int32), .int (2 : Int32)]) rfl rfl ⟨rfl, rfl, Nat.le_of_ble_eq_true rfl, Nat.le_of_ble_eq_true rfl⟩ rfl (Nat.le_of_ble_eq_true rfl) (fun z1 => ?_)
  refine G_if_ne h dX9_status_6 (tgt := 21) (by decide) rfl (fun c2 => ?_) (fun c2 => ?_)
  · have hf := it_f c2 hf
    refine G_aload_n h dX9_status_21 (i := 0) rfl rfl rfl ?_
    refine gf_X9_1 h hE dX9_status_22 h0 rfl ?_
    refine G_iload_n h dX9_status_25 (i := 1) rfl rfl rfl ?_
    obtain ⟨g3, hf⟩ := gd_some hf
    refine G_iald h dX9_status_26 ((w_8_0 hE h0).2) g3 (jx := (ix v1)) rfl rfl ?_
    exact pwI hR dX9_status_27 hf
  · have hf := it_t c2 hf
    refine G_aload_n h dX9_status_9 (i := 0) rfl rfl rfl ?_
    refine gf_X9_1 h hE dX9_status_10 h0 rfl ?_
    refine G_iconst h dX9_status_13 ki_0 rfl ?_
    refine G_dup2 h dX9_status_14 rfl rfl rfl ?_
    refine G_iald h dX9_status_15 ((w_8_0 hE h0).2) (vi_lit (by decide)) (jx := 0) (by decide) rfl ?_
    refine G_iconst h dX9_status_16 ki_1 rfl ?_
    refine G_iadd h dX9_status_17 rfl ?_
    refine G_iast h dX9_status_18 ((w_8_0 hE h0).2) (vi_lit (by decide)) (jx := 0) (by decide) rfl ?_
    refine G_iconst h dX9_status_19 ki_m1 rfl ?_
    exact pwI hR dX9_status_20 hf
def rm_X9_step : Room := { frames := 2, cells := 0, slots := 0, locals := 44 }
def b_X9_step_L44 (E : Env1) (k44 : Mem → Nat → Int32 → Int32 → Int32 → (Option (Int32 × Mem))) (M : Mem) (v0 : Nat) (v1 : Int32) (v3 : Int32) (v4 : Int32) : Option (Int32 × Mem) :=
  if (mi M v0 1) ≤ v4 then (some (v3, M))
  else (
    gd v4 6 (nm (wi M (rr E v0 10) (ix v4) ((mi M (rr E v0 10) (ix v4)) &&& (((1 : Int32) <<< (v1 &&& 31)) ^^^ (-1 : Int32)))) fun M3 =>
    k44 M3 v0 v1 v3 (v4 + 1)))
set_option maxRecDepth 100000 in
set_option maxHeartbeats 4000000 in
theorem ob_X9_step_L44 {X : Ctx} {l0 : Launch} {E : Env1} (h : Cx X l0 E RX9 cX9_step (some .int) 5 rm_X9_step) (hE : WF E) {M' : Mem} {r : Int32} (hR : RetI X E cX9_step r M') {k44 : Mem → Nat → Int32 → Int32 → Int32 → (Option (Int32 × Mem))} (hk44 : ∀ (M : Mem) (v0 : Nat) (v1 : Int32) (v3 : Int32) (v4 : Int32), isK E v0 8 → k44 M v0 v1 v3 v4 = some (r, M') → G X E (0, 0) 44 [some (.ref v0), some (.int v1), none, some (.int v3), some (.int v4)] [] M) {M : Mem} {v0 : Nat} {v1 : Int32} {v3 : Int32} {v4 : Int32} (h_v0 : isK E v0 8) (hf : b_X9_step_L44 E k44 M v0 v1 v3 v4 = some (r, M')) : G X E (0, 0) 44 [some (.ref v0), some (.int v1), none, some (.int v3), some (.int v4)] [] M := by
  unfold b_X9_step_L44 at hf
  refine G_iload h dX9_step_44 rfl rfl ?_
  refine G_aload_n h dX9_step_46 (i := 0) rfl rfl rfl ?_
  refine gf_X9_69 h dX9_step_47 h_v0 rfl ?_
  refine G_icmp_ge h dX9_step_50 (tgt := 74) (by decide) rfl (fun c1 => ?_) (fun c1 => ?_)
  · have hf := it_t c1 hf
    refine G_iload_n h dX9_step_74 (i := 3) rfl rfl rfl ?_
    exact pwI hR dX9_step_75 hf
  · have hf := it_f c1 hf
    refine G_aload_n h dX9_step_53 (i := 0) rfl rfl rfl ?_
    refine gf_X9_22 h hE dX9_step_54 h_v0 rfl ?_
    refine G_iload h dX9_step_57 rfl rfl ?_
    refine G_dup2 h dX9_step_59 rfl rfl rfl ?_
    obtain ⟨g2, hf⟩ := gd_some hf
    refine G_iald h dX9_step_60 ((w_8_10 hE h_v0).2) g2 (jx := (ix v4)) rfl rfl ?_
    refine G_iconst h dX9_step_61 ki_1 rfl ?_
    refine G_iload_n h dX9_step_62 (i := 1) rfl rfl rfl ?_
    refine G_ishl h dX9_step_63 rfl ?_
    refine G_iconst h dX9_step_64 ki_m1 rfl ?_
    refine G_ixor h dX9_step_65 rfl ?_
    refine G_iand h dX9_step_66 rfl ?_
    refine G_iast h dX9_step_67 ((w_8_10 hE h_v0).2) g2 (jx := (ix v4)) rfl rfl ?_
    refine G_nmM (fun M3 hM3 => ?_)
    have hf := nm_eq hM3 hf
    refine G_iinc2 h dX9_step_68 rfl ki_1 (by decide) (L' := [some (.ref v0), some (.int v1), none, some (.int v3), some (.int (v4 + 1))]) rfl rfl ?_
    refine G_goto h dX9_step_71 (tgt := 44) (by decide) ?_
    exact hk44 _ _ _ _ _ h_v0 hf
def f_X9_step_L44 (E : Env1) : Nat → Mem → Nat → Int32 → Int32 → Int32 → (Option (Int32 × Mem))
  | 0 => fun _ _ _ _ _ => none
  | n + 1 => b_X9_step_L44 E (f_X9_step_L44 E n)
theorem o_X9_step_L44 {X : Ctx} {l0 : Launch} {E : Env1} (h : Cx X l0 E RX9 cX9_step (some .int) 5 rm_X9_step) (hE : WF E) {M' : Mem} {r : Int32} (hR : RetI X E cX9_step r M') : ∀ (n : Nat) (M : Mem) (v0 : Nat) (v1 : Int32) (v3 : Int32) (v4 : Int32), isK E v0 8 → f_X9_step_L44 E n M v0 v1 v3 v4 = some (r, M') → G X E (0, 0) 44 [some (.ref v0), some (.int v1), none, some (.int v3), some (.int v4)] [] M := by
  intro n
  induction n with
  | zero =>
    intro _ _ _ _ _ a0 hf
    have h0 : (none : Option (Int32 × Mem)) = some (r, M') := hf
    cases h0
  | succ n ih =>
    intro _ _ _ _ _ a0 hf
    exact ob_X9_step_L44 h hE hR  ih a0 hf
def f_X9_step (E : Env1) (M : Mem) (v0 : Nat) (v1 : Int32) (v2 : Int32) : Option (Int32 × Mem) :=
  if (f_X9_isStep E M v1) = 0 then (
    nm (f_X9_bad E M v0) fun x3 =>
    some (x3.1, x3.2))
  else (
    if (f_X9_in E M v2 (0 : Int32) (5 : Int32)) = 0 then (
      nm (f_X9_bad E M v0) fun x10 =>
      some (x10.1, x10.2))
    else (
      (f_X9_notes E M v0).bind fun x6 =>
      (f_X9_whoKnows E x6 v0 v1).bind fun x7 =>
      (f_X9_bits E x6 x7).bind fun x8 =>
      gd v1 8 (f_X9_step_L44 E FU (wi x6 (rr E v0 11) (ix v1) v2) v0 v1 x8 (0 : Int32))))
set_option maxRecDepth 100000 in
set_option maxHeartbeats 4000000 in
theorem ok_X9_step {E : Env1} (hE : WF E) (l0 : Launch) {M : Mem} {M' : Mem} {v0 : Nat} {v1 : Int32} {v2 : Int32} {r : Int32} (h0 : isK E v0 8) (hf : f_X9_step E M v0 v1 v2 = some (r, M')) : Met l0 yX9_step (wsA yX9_step cX9_step 5 (some .int)) rm_X9_step (CP E M [.ref v0, .int v1, .int v2]) (CQi E r M') 0 0 (eA E) := by
  unfold f_X9_step at hf
  refine mtI l0 (by decide +kernel) (Nat.le_of_ble_eq_true rfl) (L0 := [some (.ref v0), some (.int v1), some (.int v2), none, none]) rfl (fun X h hR => ?_)
  refine G_iload_n h dX9_step_0 (i := 1) rfl rfl rfl ?_
  refine cl_X9_219 h (ok_X9_isStep hE _  (r := f_X9_isStep E M v1) rfl) dX9_step_1 (as := [.int v1]) rfl rfl ⟨rfl, rfl, Nat.le_of_ble_eq_true rfl, Nat.le_of_ble_eq_true rfl⟩ rfl (Nat.le_of_ble_eq_true rfl) (fun z1 => ?_)
  refine G_if_eq h dX9_step_4 (tgt := 16) (by decide) rfl (fun c2 => ?_) (fun c2 => ?_)
  · have hf := it_t c2 hf
    refine G_aload_n h dX9_step_16 (i := 0) rfl rfl rfl ?_
    obtain ⟨x3, hx3⟩ : ∃ x, x = f_X9_bad E M v0 := ⟨_, rfl⟩
    have hf := nm_eq hx3 hf
    refine cl_X9_95 h (ok_X9_bad hE _ h0 hx3.symm) dX9_step_17 h0 (as := []) rfl rfl ⟨rfl, rfl, Nat.le_of_ble_eq_true rfl, Nat.le_of_ble_eq_true rfl⟩ rfl (Nat.le_of_ble_eq_true rfl) ?_
    exact pwI hR dX9_step_20 hf
  · have hf := it_f c2 hf
    refine G_iload_n h dX9_step_7 (i := 2) rfl rfl rfl ?_
    refine G_iconst h dX9_step_8 ki_0 rfl ?_
    refine G_iconst h dX9_step_9 ki_5 rfl ?_
    refine cl_X9_91 h (ok_X9_in hE _  (r := f_X9_in E M v2 (0 : Int32) (5 : Int32)) rfl) dX9_step_10 (as := [.int v2, .int (0 : Int32), .int (5 : Int32)]) rfl rfl ⟨rfl, rfl, Nat.le_of_ble_eq_true rfl, Nat.le_of_ble_eq_true rfl⟩ rfl (Nat.le_of_ble_eq_true rfl) (fun z4 => ?_)
    refine G_if_ne h dX9_step_13 (tgt := 21) (by decide) rfl (fun c5 => ?_) (fun c5 => ?_)
    · have hf := it_f c5 hf
      refine G_aload_n h dX9_step_21 (i := 0) rfl rfl rfl ?_
      obtain ⟨x6, hx6, hf⟩ := bd hf
      refine cl_X9_225 h (ok_X9_notes hE _ h0 hx6) dX9_step_22 h0 (as := []) rfl rfl ⟨rfl, rfl, Nat.le_of_ble_eq_true rfl, Nat.le_of_ble_eq_true rfl⟩ rfl (Nat.le_of_ble_eq_true rfl) ?_
      refine G_aload_n h dX9_step_25 (i := 0) rfl rfl rfl ?_
      refine G_iload_n h dX9_step_26 (i := 1) rfl rfl rfl ?_
      obtain ⟨x7, hx7, hf⟩ := bd hf
      refine cl_X9_238 h (ok_X9_whoKnows hE _ h0 hx7) dX9_step_27 h0 (as := [.int v1]) rfl rfl ⟨rfl, rfl, Nat.le_of_ble_eq_true rfl, Nat.le_of_ble_eq_true rfl⟩ rfl (Nat.le_of_ble_eq_true rfl) ?_
      obtain ⟨x8, hx8, hf⟩ := bd hf
      refine cl_X9_201 h (ok_X9_bits hE _  hx8) dX9_step_30 (as := [.int x7]) rfl rfl ⟨rfl, rfl, Nat.le_of_ble_eq_true rfl, Nat.le_of_ble_eq_true rfl⟩ rfl (Nat.le_of_ble_eq_true rfl) ?_
      refine G_istore_n h dX9_step_33 (i := 3) rfl (by decide) (L' := [some (.ref v0), some (.int v1), some (.int v2), some (.int x8), none]) rfl rfl ?_
      refine G_aload_n h dX9_step_34 (i := 0) rfl rfl rfl ?_
      refine gf_X9_25 h hE dX9_step_35 h0 rfl ?_
      refine G_iload_n h dX9_step_38 (i := 1) rfl rfl rfl ?_
      refine G_iload_n h dX9_step_39 (i := 2) rfl rfl rfl ?_
      obtain ⟨g9, hf⟩ := gd_some hf
      refine G_iast h dX9_step_40 ((w_8_11 hE h0).2) g9 (jx := (ix v1)) rfl rfl ?_
      refine G_iconst h dX9_step_41 ki_0 rfl ?_
      refine G_istore h dX9_step_42  (by decide) (L' := [some (.ref v0), some (.int v1), some (.int v2), some (.int x8), some (.int (0 : Int32))]) rfl rfl ?_
      refine G_mskL [true, true, false, true, true] (L' := [some (.ref v0), some (.int v1), none, some (.int x8), some (.int (0 : Int32))]) rfl ?_
      exact o_X9_step_L44 h hE hR  FU _ _ _ _ _ h0 hf
    · have hf := it_t c5 hf
      refine G_aload_n h dX9_step_16 (i := 0) rfl rfl rfl ?_
      obtain ⟨x10, hx10⟩ : ∃ x, x = f_X9_bad E M v0 := ⟨_, rfl⟩
      have hf := nm_eq hx10 hf
      refine cl_X9_95 h (ok_X9_bad hE _ h0 hx10.symm) dX9_step_17 h0 (as := []) rfl rfl ⟨rfl, rfl, Nat.le_of_ble_eq_true rfl, Nat.le_of_ble_eq_true rfl⟩ rfl (Nat.le_of_ble_eq_true rfl) ?_
      exact pwI hR dX9_step_20 hf
def rm_X9_then : Room := { frames := 3, cells := 0, slots := 0, locals := 65 }
def f_X9_then (E : Env1) (M : Mem) (v0 : Nat) (v1 : Int32) (v2 : Int32) : Option (Int32 × Mem) :=
  if (f_X9_isOne E M v0 v1) = 0 then (
    nm (f_X9_bad E M v0) fun x3 =>
    some (x3.1, x3.2))
  else (
    if (f_X9_in E M v2 (0 : Int32) (60 : Int32)) = 0 then (
      nm (f_X9_bad E M v0) fun x10 =>
      some (x10.1, x10.2))
    else (
      (f_X9_lays E 22 M v0 (rr E v0 22) (0 : Int32)).bind fun x6 =>
      (f_X9_goesOn E x6 v0 v2).bind fun x7 =>
      gd v1 6 ((f_X9_takes E 22 x7 v0 (rr E v0 22) (0 : Int32)).bind fun x9 =>
      some (mi x7 (rr E v0 10) (ix v1), x9))))
set_option maxRecDepth 100000 in
set_option maxHeartbeats 4000000 in
theorem ok_X9_then {E : Env1} (hE : WF E) (l0 : Launch) {M : Mem} {M' : Mem} {v0 : Nat} {v1 : Int32} {v2 : Int32} {r : Int32} (h0 : isK E v0 8) (hf : f_X9_then E M v0 v1 v2 = some (r, M')) : Met l0 yX9_then (wsA yX9_then cX9_then 4 (some .int)) rm_X9_then (CP E M [.ref v0, .int v1, .int v2]) (CQi E r M') 0 0 (eA E) := by
  unfold f_X9_then at hf
  refine mtI l0 (by decide +kernel) (Nat.le_of_ble_eq_true rfl) (L0 := [some (.ref v0), some (.int v1), some (.int v2), none]) rfl (fun X h hR => ?_)
  refine G_aload_n h dX9_then_0 (i := 0) rfl rfl rfl ?_
  refine G_iload_n h dX9_then_1 (i := 1) rfl rfl rfl ?_
  refine cl_X9_216 h (ok_X9_isOne hE _ h0 (r := f_X9_isOne E M v0 v1) rfl) dX9_then_2 h0 (as := [.int v1]) rfl rfl ⟨rfl, rfl, Nat.le_of_ble_eq_true rfl, Nat.le_of_ble_eq_true rfl⟩ rfl (Nat.le_of_ble_eq_true rfl) (fun z1 => ?_)
  refine G_if_eq h dX9_then_5 (tgt := 18) (by decide) rfl (fun c2 => ?_) (fun c2 => ?_)
  · have hf := it_t c2 hf
    refine G_aload_n h dX9_then_18 (i := 0) rfl rfl rfl ?_
    obtain ⟨x3, hx3⟩ : ∃ x, x = f_X9_bad E M v0 := ⟨_, rfl⟩
    have hf := nm_eq hx3 hf
    refine cl_X9_95 h (ok_X9_bad hE _ h0 hx3.symm) dX9_then_19 h0 (as := []) rfl rfl ⟨rfl, rfl, Nat.le_of_ble_eq_true rfl, Nat.le_of_ble_eq_true rfl⟩ rfl (Nat.le_of_ble_eq_true rfl) ?_
    exact pwI hR dX9_then_22 hf
  · have hf := it_f c2 hf
    refine G_iload_n h dX9_then_8 (i := 2) rfl rfl rfl ?_
    refine G_iconst h dX9_then_9 ki_0 rfl ?_
    refine G_bipush h dX9_then_10 kb_60 rfl ?_
    refine cl_X9_91 h (ok_X9_in hE _  (r := f_X9_in E M v2 (0 : Int32) (60 : Int32)) rfl) dX9_then_12 (as := [.int v2, .int (0 : Int32), .int (60 : Int32)]) rfl rfl ⟨rfl, rfl, Nat.le_of_ble_eq_true rfl, Nat.le_of_ble_eq_true rfl⟩ rfl (Nat.le_of_ble_eq_true rfl) (fun z4 => ?_)
    refine G_if_ne h dX9_then_15 (tgt := 23) (by decide) rfl (fun c5 => ?_) (fun c5 => ?_)
    · have hf := it_f c5 hf
      refine G_aload_n h dX9_then_23 (i := 0) rfl rfl rfl ?_
      refine G_aload_n h dX9_then_24 (i := 0) rfl rfl rfl ?_
      refine gf_X9_46 h hE dX9_then_25 h0 rfl ?_
      refine G_iconst h dX9_then_28 ki_0 rfl ?_
      obtain ⟨x6, hx6, hf⟩ := bd hf
      refine cl_X9_207 h (ok_X9_lays hE _ h0 ((w_8_22 hE h0).2) hx6) dX9_then_29 h0 (as := [.ref (rr E v0 22), .int (0 : Int32)]) rfl rfl ⟨rfl, rfl, Nat.le_of_ble_eq_true rfl, Nat.le_of_ble_eq_true rfl⟩ rfl (Nat.le_of_ble_eq_true rfl) ?_
      refine G_aload_n h dX9_then_32 (i := 0) rfl rfl rfl ?_
      refine G_iload_n h dX9_then_33 (i := 2) rfl rfl rfl ?_
      obtain ⟨x7, hx7, hf⟩ := bd hf
      refine cl_X9_143 h (ok_X9_goesOn hE _ h0 hx7) dX9_then_34 h0 (as := [.int v2]) rfl rfl ⟨rfl, rfl, Nat.le_of_ble_eq_true rfl, Nat.le_of_ble_eq_true rfl⟩ rfl (Nat.le_of_ble_eq_true rfl) ?_
      refine G_aload_n h dX9_then_37 (i := 0) rfl rfl rfl ?_
      refine gf_X9_22 h hE dX9_then_38 h0 rfl ?_
      refine G_iload_n h dX9_then_41 (i := 1) rfl rfl rfl ?_
      obtain ⟨g8, hf⟩ := gd_some hf
      refine G_iald h dX9_then_42 ((w_8_10 hE h0).2) g8 (jx := (ix v1)) rfl rfl ?_
      refine G_istore_n h dX9_then_43 (i := 3) rfl (by decide) (L' := [some (.ref v0), some (.int v1), some (.int v2), some (.int (mi x7 (rr E v0 10) (ix v1)))]) rfl rfl ?_
      refine G_aload_n h dX9_then_44 (i := 0) rfl rfl rfl ?_
      refine G_aload_n h dX9_then_45 (i := 0) rfl rfl rfl ?_
      refine gf_X9_46 h hE dX9_then_46 h0 rfl ?_
      refine G_iconst h dX9_then_49 ki_0 rfl ?_
      obtain ⟨x9, hx9, hf⟩ := bd hf
      refine cl_X9_241 h (ok_X9_takes hE _ h0 ((w_8_22 hE h0).2) hx9) dX9_then_50 h0 (as := [.ref (rr E v0 22), .int (0 : Int32)]) rfl rfl ⟨rfl, rfl, Nat.le_of_ble_eq_true rfl, Nat.le_of_ble_eq_true rfl⟩ rfl (Nat.le_of_ble_eq_true rfl) ?_
      refine G_iload_n h dX9_then_53 (i := 3) rfl rfl rfl ?_
      exact pwI hR dX9_then_54 hf
    · have hf := it_t c5 hf
      refine G_aload_n h dX9_then_18 (i := 0) rfl rfl rfl ?_
      obtain ⟨x10, hx10⟩ : ∃ x, x = f_X9_bad E M v0 := ⟨_, rfl⟩
      have hf := nm_eq hx10 hf
      refine cl_X9_95 h (ok_X9_bad hE _ h0 hx10.symm) dX9_then_19 h0 (as := []) rfl rfl ⟨rfl, rfl, Nat.le_of_ble_eq_true rfl, Nat.le_of_ble_eq_true rfl⟩ rfl (Nat.le_of_ble_eq_true rfl) ?_
      exact pwI hR dX9_then_22 hf
def rm_X9_type : Room := { frames := 1, cells := 0, slots := 0, locals := 22 }
def f_X9_type (E : Env1) (M : Mem) (v0 : Nat) (v1 : Int32) : Option (Int32 × Mem) :=
  if (f_X9_in E M v1 (0 : Int32) (127 : Int32)) = 0 then (
    nm (f_X9_bad E M v0) fun x7 =>
    some (x7.1, x7.2))
  else (
    if (mi M v0 16) = (150 : Int32) then (
      nm (f_X9_full E M v0) fun x6 =>
      some (x6.1, x6.2))
    else (
      gd (mi M v0 16) 150 (nm (wi (wi M (rr E v0 15) (ix (mi M v0 16)) v1) v0 16 ((mi (wi M (rr E v0 15) (ix (mi M v0 16)) v1) v0 16) + (1 : Int32))) fun M5 =>
      some (mi M5 v0 16, M5))))
set_option maxRecDepth 100000 in
set_option maxHeartbeats 4000000 in
theorem ok_X9_type {E : Env1} (hE : WF E) (l0 : Launch) {M : Mem} {M' : Mem} {v0 : Nat} {v1 : Int32} {r : Int32} (h0 : isK E v0 8) (hf : f_X9_type E M v0 v1 = some (r, M')) : Met l0 yX9_type (wsA yX9_type cX9_type 2 (some .int)) rm_X9_type (CP E M [.ref v0, .int v1]) (CQi E r M') 0 0 (eA E) := by
  unfold f_X9_type at hf
  refine mtI l0 (by decide +kernel) (Nat.le_of_ble_eq_true rfl) (L0 := [some (.ref v0), some (.int v1)]) rfl (fun X h hR => ?_)
  refine G_iload_n h dX9_type_0 (i := 1) rfl rfl rfl ?_
  refine G_iconst h dX9_type_1 ki_0 rfl ?_
  refine G_bipush h dX9_type_2 kb_127 rfl ?_
  refine cl_X9_91 h (ok_X9_in hE _  (r := f_X9_in E M v1 (0 : Int32) (127 : Int32)) rfl) dX9_type_4 (as := [.int v1, .int (0 : Int32), .int (127 : Int32)]) rfl rfl ⟨rfl, rfl, Nat.le_of_ble_eq_true rfl, Nat.le_of_ble_eq_true rfl⟩ rfl (Nat.le_of_ble_eq_true rfl) (fun z1 => ?_)
  refine G_if_ne h dX9_type_7 (tgt := 15) (by decide) rfl (fun c2 => ?_) (fun c2 => ?_)
  · have hf := it_f c2 hf
    refine G_aload_n h dX9_type_15 (i := 0) rfl rfl rfl ?_
    refine gf_X9_106 h dX9_type_16 h0 rfl ?_
    refine G_sipush h dX9_type_19 ks_150 rfl ?_
    refine G_icmp_ne h dX9_type_22 (tgt := 30) (by decide) rfl (fun c3 => ?_) (fun c3 => ?_)
    · have hf := it_f c3 hf
      refine G_aload_n h dX9_type_30 (i := 0) rfl rfl rfl ?_
      refine gf_X9_37 h hE dX9_type_31 h0 rfl ?_
      refine G_aload_n h dX9_type_34 (i := 0) rfl rfl rfl ?_
      refine gf_X9_106 h dX9_type_35 h0 rfl ?_
      refine G_iload_n h dX9_type_38 (i := 1) rfl rfl rfl ?_
      obtain ⟨g4, hf⟩ := gd_some hf
      refine G_iast h dX9_type_39 ((w_8_15 hE h0).2) g4 (jx := (ix (mi M v0 16))) rfl rfl ?_
      refine G_aload_n h dX9_type_40 (i := 0) rfl rfl rfl ?_
      refine G_dup h dX9_type_41 rfl rfl ?_
      refine gf_X9_106 h dX9_type_42 h0 rfl ?_
      refine G_iconst h dX9_type_45 ki_1 rfl ?_
      refine G_iadd h dX9_type_46 rfl ?_
      refine pf_X9_106 h dX9_type_47 h0 rfl ?_
      refine G_nmM (fun M5 hM5 => ?_)
      have hf := nm_eq hM5 hf
      refine G_aload_n h dX9_type_50 (i := 0) rfl rfl rfl ?_
      refine gf_X9_106 h dX9_type_51 h0 rfl ?_
      exact pwI hR dX9_type_54 hf
    · have hf := it_t c3 hf
      refine G_aload_n h dX9_type_25 (i := 0) rfl rfl rfl ?_
      obtain ⟨x6, hx6⟩ : ∃ x, x = f_X9_full E M v0 := ⟨_, rfl⟩
      have hf := nm_eq hx6 hf
      refine cl_X9_99 h (ok_X9_full hE _ h0 hx6.symm) dX9_type_26 h0 (as := []) rfl rfl ⟨rfl, rfl, Nat.le_of_ble_eq_true rfl, Nat.le_of_ble_eq_true rfl⟩ rfl (Nat.le_of_ble_eq_true rfl) ?_
      exact pwI hR dX9_type_29 hf
  · have hf := it_t c2 hf
    refine G_aload_n h dX9_type_10 (i := 0) rfl rfl rfl ?_
    obtain ⟨x7, hx7⟩ : ∃ x, x = f_X9_bad E M v0 := ⟨_, rfl⟩
    have hf := nm_eq hx7 hf
    refine cl_X9_95 h (ok_X9_bad hE _ h0 hx7.symm) dX9_type_11 h0 (as := []) rfl rfl ⟨rfl, rfl, Nat.le_of_ble_eq_true rfl, Nat.le_of_ble_eq_true rfl⟩ rfl (Nat.le_of_ble_eq_true rfl) ?_
    exact pwI hR dX9_type_14 hf
def rm_X9_undo : Room := { frames := 1, cells := 0, slots := 0, locals := 23 }
def f_X9_undo (E : Env1) (M : Mem) (v0 : Nat) : Option (Int32 × Mem) :=
  if (mi M v0 21) = 0 then (
    nm (f_X9_no E M v0) fun x3 =>
    some (x3.1, x3.2))
  else (
    (f_X9_takes E 176 (wi M v0 21 ((mi M v0 21) - (1 : Int32))) v0 (rr E v0 20) ((22 : Int32) * (mi (wi M v0 21 ((mi M v0 21) - (1 : Int32))) v0 21))).bind fun x2 =>
    some (mi x2 v0 2, x2))
set_option maxRecDepth 100000 in
set_option maxHeartbeats 4000000 in
theorem ok_X9_undo {E : Env1} (hE : WF E) (l0 : Launch) {M : Mem} {M' : Mem} {v0 : Nat} {r : Int32} (h0 : isK E v0 8) (hf : f_X9_undo E M v0 = some (r, M')) : Met l0 yX9_undo (wsA yX9_undo cX9_undo 1 (some .int)) rm_X9_undo (CP E M [.ref v0]) (CQi E r M') 0 0 (eA E) := by
  unfold f_X9_undo at hf
  refine mtI l0 (by decide +kernel) (Nat.le_of_ble_eq_true rfl) (L0 := [some (.ref v0)]) rfl (fun X h hR => ?_)
  refine G_aload_n h dX9_undo_0 (i := 0) rfl rfl rfl ?_
  refine gf_X9_88 h dX9_undo_1 h0 rfl ?_
  refine G_if_ne h dX9_undo_4 (tgt := 12) (by decide) rfl (fun c1 => ?_) (fun c1 => ?_)
  · have hf := it_f c1 hf
    refine G_aload_n h dX9_undo_12 (i := 0) rfl rfl rfl ?_
    refine G_dup h dX9_undo_13 rfl rfl ?_
    refine gf_X9_88 h dX9_undo_14 h0 rfl ?_
    refine G_iconst h dX9_undo_17 ki_1 rfl ?_
    refine G_isub h dX9_undo_18 rfl ?_
    refine pf_X9_88 h dX9_undo_19 h0 rfl ?_
    refine G_aload_n h dX9_undo_22 (i := 0) rfl rfl rfl ?_
    refine G_aload_n h dX9_undo_23 (i := 0) rfl rfl rfl ?_
    refine gf_X9_43 h hE dX9_undo_24 h0 rfl ?_
    refine G_bipush h dX9_undo_27 kb_22 rfl ?_
    refine G_aload_n h dX9_undo_29 (i := 0) rfl rfl rfl ?_
    refine gf_X9_88 h dX9_undo_30 h0 rfl ?_
    refine G_imul h dX9_undo_33 rfl ?_
    obtain ⟨x2, hx2, hf⟩ := bd hf
    refine cl_X9_241 h (ok_X9_takes hE _ h0 ((w_8_20 hE h0).2) hx2) dX9_undo_34 h0 (as := [.ref (rr E v0 20), .int ((22 : Int32) * (mi (wi M v0 21 ((mi M v0 21) - (1 : Int32))) v0 21))]) rfl rfl ⟨rfl, rfl, Nat.le_of_ble_eq_true rfl, Nat.le_of_ble_eq_true rfl⟩ rfl (Nat.le_of_ble_eq_true rfl) ?_
    refine G_aload_n h dX9_undo_37 (i := 0) rfl rfl rfl ?_
    refine gf_X9_73 h dX9_undo_38 h0 rfl ?_
    exact pwI hR dX9_undo_41 hf
  · have hf := it_t c1 hf
    refine G_aload_n h dX9_undo_7 (i := 0) rfl rfl rfl ?_
    obtain ⟨x3, hx3⟩ : ∃ x, x = f_X9_no E M v0 := ⟨_, rfl⟩
    have hf := nm_eq hx3 hf
    refine cl_X9_222 h (ok_X9_no hE _ h0 hx3.symm) dX9_undo_8 h0 (as := []) rfl rfl ⟨rfl, rfl, Nat.le_of_ble_eq_true rfl, Nat.le_of_ble_eq_true rfl⟩ rfl (Nat.le_of_ble_eq_true rfl) ?_
    exact pwI hR dX9_undo_11 hf
def rm_X9_waits : Room := { frames := 2, cells := 0, slots := 0, locals := 44 }
def b_X9_waits_L21 (E : Env1) (k21 : Mem → Nat → Int32 → Int32 → (Option (Int32 × Mem))) (M : Mem) (v0 : Nat) (v1 : Int32) (v2 : Int32) : Option (Int32 × Mem) :=
  if v1 ≤ v2 then (
    (f_X9_knownAll E M v0).bind fun x2 =>
    some (x2, M))
  else (
    if (9999 : Int32) ≤ (mi M v0 2) then (
      (f_X9_knownAll E M v0).bind fun x4 =>
      some (x4, M))
    else (
      (f_X9_passes E M v0).bind fun x5 =>
      k21 x5 v0 v1 (v2 + 1)))
set_option maxRecDepth 100000 in
set_option maxHeartbeats 4000000 in
theorem ob_X9_waits_L21 {X : Ctx} {l0 : Launch} {E : Env1} (h : Cx X l0 E RX9 cX9_waits (some .int) 3 rm_X9_waits) (hE : WF E) {M' : Mem} {r : Int32} (hR : RetI X E cX9_waits r M') {k21 : Mem → Nat → Int32 → Int32 → (Option (Int32 × Mem))} (hk21 : ∀ (M : Mem) (v0 : Nat) (v1 : Int32) (v2 : Int32), isK E v0 8 → k21 M v0 v1 v2 = some (r, M') → G X E (0, 0) 21 [some (.ref v0), some (.int v1), some (.int v2)] [] M) {M : Mem} {v0 : Nat} {v1 : Int32} {v2 : Int32} (h_v0 : isK E v0 8) (hf : b_X9_waits_L21 E k21 M v0 v1 v2 = some (r, M')) : G X E (0, 0) 21 [some (.ref v0), some (.int v1), some (.int v2)] [] M := by
  unfold b_X9_waits_L21 at hf
  refine G_iload_n h dX9_waits_21 (i := 2) rfl rfl rfl ?_
  refine G_iload_n h dX9_waits_22 (i := 1) rfl rfl rfl ?_
  refine G_icmp_ge h dX9_waits_23 (tgt := 46) (by decide) rfl (fun c1 => ?_) (fun c1 => ?_)
  · have hf := it_t c1 hf
    refine G_aload_n h dX9_waits_46 (i := 0) rfl rfl rfl ?_
    obtain ⟨x2, hx2, hf⟩ := bd hf
    refine cl_X9_235 h (ok_X9_knownAll hE _ h_v0 hx2) dX9_waits_47 h_v0 (as := []) rfl rfl ⟨rfl, rfl, Nat.le_of_ble_eq_true rfl, Nat.le_of_ble_eq_true rfl⟩ rfl (Nat.le_of_ble_eq_true rfl) ?_
    exact pwI hR dX9_waits_50 hf
  · have hf := it_f c1 hf
    refine G_aload_n h dX9_waits_26 (i := 0) rfl rfl rfl ?_
    refine gf_X9_73 h dX9_waits_27 h_v0 rfl ?_
    refine G_sipush h dX9_waits_30 ks_9999 rfl ?_
    refine G_icmp_ge h dX9_waits_33 (tgt := 46) (by decide) rfl (fun c3 => ?_) (fun c3 => ?_)
    · have hf := it_t c3 hf
      refine G_aload_n h dX9_waits_46 (i := 0) rfl rfl rfl ?_
      obtain ⟨x4, hx4, hf⟩ := bd hf
      refine cl_X9_235 h (ok_X9_knownAll hE _ h_v0 hx4) dX9_waits_47 h_v0 (as := []) rfl rfl ⟨rfl, rfl, Nat.le_of_ble_eq_true rfl, Nat.le_of_ble_eq_true rfl⟩ rfl (Nat.le_of_ble_eq_true rfl) ?_
      exact pwI hR dX9_waits_50 hf
    · have hf := it_f c3 hf
      refine G_aload_n h dX9_waits_36 (i := 0) rfl rfl rfl ?_
      obtain ⟨x5, hx5, hf⟩ := bd hf
      refine cl_X9_204 h (ok_X9_passes hE _ h_v0 hx5) dX9_waits_37 h_v0 (as := []) rfl rfl ⟨rfl, rfl, Nat.le_of_ble_eq_true rfl, Nat.le_of_ble_eq_true rfl⟩ rfl (Nat.le_of_ble_eq_true rfl) ?_
      refine G_iinc2 h dX9_waits_40 rfl ki_1 (by decide) (L' := [some (.ref v0), some (.int v1), some (.int (v2 + 1))]) rfl rfl ?_
      refine G_goto h dX9_waits_43 (tgt := 21) (by decide) ?_
      exact hk21 _ _ _ _ h_v0 hf
def f_X9_waits_L21 (E : Env1) : Nat → Mem → Nat → Int32 → Int32 → (Option (Int32 × Mem))
  | 0 => fun _ _ _ _ => none
  | n + 1 => b_X9_waits_L21 E (f_X9_waits_L21 E n)
theorem o_X9_waits_L21 {X : Ctx} {l0 : Launch} {E : Env1} (h : Cx X l0 E RX9 cX9_waits (some .int) 3 rm_X9_waits) (hE : WF E) {M' : Mem} {r : Int32} (hR : RetI X E cX9_waits r M') : ∀ (n : Nat) (M : Mem) (v0 : Nat) (v1 : Int32) (v2 : Int32), isK E v0 8 → f_X9_waits_L21 E n M v0 v1 v2 = some (r, M') → G X E (0, 0) 21 [some (.ref v0), some (.int v1), some (.int v2)] [] M := by
  intro n
  induction n with
  | zero =>
    intro _ _ _ _ a0 hf
    have h0 : (none : Option (Int32 × Mem)) = some (r, M') := hf
    cases h0
  | succ n ih =>
    intro _ _ _ _ a0 hf
    exact ob_X9_waits_L21 h hE hR  ih a0 hf
def f_X9_waits (E : Env1) (M : Mem) (v0 : Nat) (v1 : Int32) : Option (Int32 × Mem) :=
  if (f_X9_in E M v1 (1 : Int32) (60 : Int32)) = 0 then (
    nm (f_X9_bad E M v0) fun x4 =>
    some (x4.1, x4.2))
  else (
    (f_X9_notes E M v0).bind fun x3 =>
    f_X9_waits_L21 E FU x3 v0 v1 (0 : Int32))
set_option maxRecDepth 100000 in
set_option maxHeartbeats 4000000 in
theorem ok_X9_waits {E : Env1} (hE : WF E) (l0 : Launch) {M : Mem} {M' : Mem} {v0 : Nat} {v1 : Int32} {r : Int32} (h0 : isK E v0 8) (hf : f_X9_waits E M v0 v1 = some (r, M')) : Met l0 yX9_waits (wsA yX9_waits cX9_waits 3 (some .int)) rm_X9_waits (CP E M [.ref v0, .int v1]) (CQi E r M') 0 0 (eA E) := by
  unfold f_X9_waits at hf
  refine mtI l0 (by decide +kernel) (Nat.le_of_ble_eq_true rfl) (L0 := [some (.ref v0), some (.int v1), none]) rfl (fun X h hR => ?_)
  refine G_iload_n h dX9_waits_0 (i := 1) rfl rfl rfl ?_
  refine G_iconst h dX9_waits_1 ki_1 rfl ?_
  refine G_bipush h dX9_waits_2 kb_60 rfl ?_
  refine cl_X9_91 h (ok_X9_in hE _  (r := f_X9_in E M v1 (1 : Int32) (60 : Int32)) rfl) dX9_waits_4 (as := [.int v1, .int (1 : Int32), .int (60 : Int32)]) rfl rfl ⟨rfl, rfl, Nat.le_of_ble_eq_true rfl, Nat.le_of_ble_eq_true rfl⟩ rfl (Nat.le_of_ble_eq_true rfl) (fun z1 => ?_)
  refine G_if_ne h dX9_waits_7 (tgt := 15) (by decide) rfl (fun c2 => ?_) (fun c2 => ?_)
  · have hf := it_f c2 hf
    refine G_aload_n h dX9_waits_15 (i := 0) rfl rfl rfl ?_
    obtain ⟨x3, hx3, hf⟩ := bd hf
    refine cl_X9_225 h (ok_X9_notes hE _ h0 hx3) dX9_waits_16 h0 (as := []) rfl rfl ⟨rfl, rfl, Nat.le_of_ble_eq_true rfl, Nat.le_of_ble_eq_true rfl⟩ rfl (Nat.le_of_ble_eq_true rfl) ?_
    refine G_iconst h dX9_waits_19 ki_0 rfl ?_
    refine G_istore_n h dX9_waits_20 (i := 2) rfl (by decide) (L' := [some (.ref v0), some (.int v1), some (.int (0 : Int32))]) rfl rfl ?_
    exact o_X9_waits_L21 h hE hR  FU _ _ _ _ h0 hf
  · have hf := it_t c2 hf
    refine G_aload_n h dX9_waits_10 (i := 0) rfl rfl rfl ?_
    obtain ⟨x4, hx4⟩ : ∃ x, x = f_X9_bad E M v0 := ⟨_, rfl⟩
    have hf := nm_eq hx4 hf
    refine cl_X9_95 h (ok_X9_bad hE _ h0 hx4.symm) dX9_waits_11 h0 (as := []) rfl rfl ⟨rfl, rfl, Nat.le_of_ble_eq_true rfl, Nat.le_of_ble_eq_true rfl⟩ rfl (Nat.le_of_ble_eq_true rfl) ?_
    exact pwI hR dX9_waits_14 hf
def rm_X9_word : Room := { frames := 2, cells := 0, slots := 0, locals := 44 }
def f_X9_word (E : Env1) (M : Mem) (v0 : Nat) (v1 : Int32) : Option (Int32 × Mem) :=
  if (f_X9_isOne E M v0 v1) = 0 then (
    nm (f_X9_bad E M v0) fun x3 =>
    some (x3.1, x3.2))
  else (
    (f_X9_worth E M v0 v1 (f_X9_dayMinute E M v0)).bind fun x4 =>
    some (x4, M))
set_option maxRecDepth 100000 in
set_option maxHeartbeats 4000000 in
theorem ok_X9_word {E : Env1} (hE : WF E) (l0 : Launch) {M : Mem} {M' : Mem} {v0 : Nat} {v1 : Int32} {r : Int32} (h0 : isK E v0 8) (hf : f_X9_word E M v0 v1 = some (r, M')) : Met l0 yX9_word (wsA yX9_word cX9_word 2 (some .int)) rm_X9_word (CP E M [.ref v0, .int v1]) (CQi E r M') 0 0 (eA E) := by
  unfold f_X9_word at hf
  refine mtI l0 (by decide +kernel) (Nat.le_of_ble_eq_true rfl) (L0 := [some (.ref v0), some (.int v1)]) rfl (fun X h hR => ?_)
  refine G_aload_n h dX9_word_0 (i := 0) rfl rfl rfl ?_
  refine G_iload_n h dX9_word_1 (i := 1) rfl rfl rfl ?_
  refine cl_X9_216 h (ok_X9_isOne hE _ h0 (r := f_X9_isOne E M v0 v1) rfl) dX9_word_2 h0 (as := [.int v1]) rfl rfl ⟨rfl, rfl, Nat.le_of_ble_eq_true rfl, Nat.le_of_ble_eq_true rfl⟩ rfl (Nat.le_of_ble_eq_true rfl) (fun z1 => ?_)
  refine G_if_eq h dX9_word_5 (tgt := 20) (by decide) rfl (fun c2 => ?_) (fun c2 => ?_)
  · have hf := it_t c2 hf
    refine G_aload_n h dX9_word_20 (i := 0) rfl rfl rfl ?_
    obtain ⟨x3, hx3⟩ : ∃ x, x = f_X9_bad E M v0 := ⟨_, rfl⟩
    have hf := nm_eq hx3 hf
    refine cl_X9_95 h (ok_X9_bad hE _ h0 hx3.symm) dX9_word_21 h0 (as := []) rfl rfl ⟨rfl, rfl, Nat.le_of_ble_eq_true rfl, Nat.le_of_ble_eq_true rfl⟩ rfl (Nat.le_of_ble_eq_true rfl) ?_
    exact pwI hR dX9_word_24 hf
  · have hf := it_f c2 hf
    refine G_aload_n h dX9_word_8 (i := 0) rfl rfl rfl ?_
    refine G_iload_n h dX9_word_9 (i := 1) rfl rfl rfl ?_
    refine G_aload_n h dX9_word_10 (i := 0) rfl rfl rfl ?_
    refine cl_X9_210 h (ok_X9_dayMinute hE _ h0 (r := f_X9_dayMinute E M v0) rfl) dX9_word_11 h0 (as := []) rfl rfl ⟨rfl, rfl, Nat.le_of_ble_eq_true rfl, Nat.le_of_ble_eq_true rfl⟩ rfl (Nat.le_of_ble_eq_true rfl) ?_
    obtain ⟨x4, hx4, hf⟩ := bd hf
    refine cl_X9_192 h (ok_X9_worth hE _ h0 hx4) dX9_word_14 h0 (as := [.int v1, .int (f_X9_dayMinute E M v0)]) rfl rfl ⟨rfl, rfl, Nat.le_of_ble_eq_true rfl, Nat.le_of_ble_eq_true rfl⟩ rfl (Nat.le_of_ble_eq_true rfl) ?_
    refine G_goto h dX9_word_17 (tgt := 24) (by decide) ?_
    exact pwI hR dX9_word_24 hf
end
