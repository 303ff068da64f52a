section
def rm_X0_copyPeople : Room := { frames := 1, cells := 0, slots := 0, locals := 22 }
def b_X0_copyPeople_L10 (E : Env1) (k10 : Mem → Nat → Nat → Int32 → (Option (Mem))) (M : Mem) (v0 : Nat) (v1 : Nat) (v2 : Int32) : Option (Mem) :=
  if (6 : Int32) ≤ v2 then (
    (f_X5_copyFrom E M (rr E v0 3) (rr E v1 3)).bind fun x2 =>
    some x2)
  else (
    gd v2 6 (nm (wi (wi M (rr E v0 1) (ix v2) (mi M (rr E v1 1) (ix v2))) (rr E v0 2) (ix v2) (mi (wi M (rr E v0 1) (ix v2) (mi M (rr E v1 1) (ix v2))) (rr E v1 2) (ix v2))) fun M4 =>
    k10 M4 v0 v1 (v2 + 1)))
set_option maxRecDepth 100000 in
set_option maxHeartbeats 4000000 in
theorem ob_X0_copyPeople_L10 {X : Ctx} {l0 : Launch} {E : Env1} (h : Cx X l0 E RX0 cX0_copyPeople none 3 rm_X0_copyPeople) (hE : WF E) {M' : Mem} (hR : RetV X E cX0_copyPeople M') {k10 : Mem → Nat → Nat → Int32 → (Option (Mem))} (hk10 : ∀ (M : Mem) (v0 : Nat) (v1 : Nat) (v2 : Int32), isK E v0 0 → isK E v1 0 → k10 M v0 v1 v2 = some (M') → G X E (0, 0) 10 [some (.ref v0), some (.ref v1), some (.int v2)] [] M) {M : Mem} {v0 : Nat} {v1 : Nat} {v2 : Int32} (h_v0 : isK E v0 0) (h_v1 : isK E v1 0) (hf : b_X0_copyPeople_L10 E k10 M v0 v1 v2 = some (M')) : G X E (0, 0) 10 [some (.ref v0), some (.ref v1), some (.int v2)] [] M := by
  unfold b_X0_copyPeople_L10 at hf
  refine G_iload_n h dX0_copyPeople_10 (i := 2) rfl rfl rfl ?_
  refine G_bipush h dX0_copyPeople_11 kb_6 rfl ?_
  refine G_icmp_ge h dX0_copyPeople_13 (tgt := 46) (by decide) rfl (fun c1 => ?_) (fun c1 => ?_)
  · have hf := it_t c1 hf
    refine G_aload_n h dX0_copyPeople_46 (i := 0) rfl rfl rfl ?_
    refine gf_X0_25 h hE dX0_copyPeople_47 h_v0 rfl ?_
    refine G_aload_n h dX0_copyPeople_50 (i := 1) rfl rfl rfl ?_
    refine gf_X0_25 h hE dX0_copyPeople_51 h_v1 rfl ?_
    obtain ⟨x2, hx2, hf⟩ := bd hf
    refine cl_X0_70 h (ok_X5_copyFrom hE _ ((w_0_3 hE h_v0).2) ((w_0_3 hE h_v1).2) hx2) dX0_copyPeople_54 ((w_0_3 hE h_v0).2) (as := [.ref (rr E v1 3)]) rfl rfl ⟨rfl, rfl, Nat.le_of_ble_eq_true rfl, Nat.le_of_ble_eq_true rfl⟩ rfl (Nat.le_of_ble_eq_true rfl) ?_
    exact pwV hR dX0_copyPeople_57 hf
  · have hf := it_f c1 hf
    refine G_aload_n h dX0_copyPeople_16 (i := 0) rfl rfl rfl ?_
    refine gf_X0_15 h hE dX0_copyPeople_17 h_v0 rfl ?_
    refine G_iload_n h dX0_copyPeople_20 (i := 2) rfl rfl rfl ?_
    refine G_aload_n h dX0_copyPeople_21 (i := 1) rfl rfl rfl ?_
    refine gf_X0_15 h hE dX0_copyPeople_22 h_v1 rfl ?_
    refine G_iload_n h dX0_copyPeople_25 (i := 2) rfl rfl rfl ?_
    obtain ⟨g3, hf⟩ := gd_some hf
    refine G_iald h dX0_copyPeople_26 ((w_0_1 hE h_v1).2) g3 (jx := (ix v2)) rfl rfl ?_
    refine G_iast h dX0_copyPeople_27 ((w_0_1 hE h_v0).2) g3 (jx := (ix v2)) rfl rfl ?_
    refine G_aload_n h dX0_copyPeople_28 (i := 0) rfl rfl rfl ?_
    refine gf_X0_19 h hE dX0_copyPeople_29 h_v0 rfl ?_
    refine G_iload_n h dX0_copyPeople_32 (i := 2) rfl rfl rfl ?_
    refine G_aload_n h dX0_copyPeople_33 (i := 1) rfl rfl rfl ?_
    refine gf_X0_19 h hE dX0_copyPeople_34 h_v1 rfl ?_
    refine G_iload_n h dX0_copyPeople_37 (i := 2) rfl rfl rfl ?_
    refine G_iald h dX0_copyPeople_38 ((w_0_2 hE h_v1).2) g3 (jx := (ix v2)) rfl rfl ?_
    refine G_iast h dX0_copyPeople_39 ((w_0_2 hE h_v0).2) g3 (jx := (ix v2)) rfl rfl ?_
    refine G_nmM (fun M4 hM4 => ?_)
    have hf := nm_eq hM4 hf
    refine G_iinc2 h dX0_copyPeople_40 rfl ki_1 (by decide) (L' := [some (.ref v0), some (.ref v1), some (.int (v2 + 1))]) rfl rfl ?_
    refine G_goto h dX0_copyPeople_43 (tgt := 10) (by decide) ?_
    exact hk10 _ _ _ _ h_v0 h_v1 hf
def f_X0_copyPeople_L10 (E : Env1) : Nat → Mem → Nat → Nat → Int32 → (Option (Mem))
  | 0 => fun _ _ _ _ => none
  | n + 1 => b_X0_copyPeople_L10 E (f_X0_copyPeople_L10 E n)
theorem o_X0_copyPeople_L10 {X : Ctx} {l0 : Launch} {E : Env1} (h : Cx X l0 E RX0 cX0_copyPeople none 3 rm_X0_copyPeople) (hE : WF E) {M' : Mem} (hR : RetV X E cX0_copyPeople M') : ∀ (n : Nat) (M : Mem) (v0 : Nat) (v1 : Nat) (v2 : Int32), isK E v0 0 → isK E v1 0 → f_X0_copyPeople_L10 E n M v0 v1 v2 = some (M') → G X E (0, 0) 10 [some (.ref v0), some (.ref v1), some (.int v2)] [] M := by
  intro n
  induction n with
  | zero =>
    intro _ _ _ _ a0 a1 hf
    have h0 : (none : Option (Mem)) = some (M') := hf
    cases h0
  | succ n ih =>
    intro _ _ _ _ a0 a1 hf
    exact ob_X0_copyPeople_L10 h hE hR  ih a0 a1 hf
def f_X0_copyPeople (E : Env1) (M : Mem) (v0 : Nat) (v1 : Nat) : Option (Mem) :=
  f_X0_copyPeople_L10 E FU (wi M v0 0 (mi M v1 0)) v0 v1 (0 : Int32)
set_option maxRecDepth 100000 in
set_option maxHeartbeats 4000000 in
theorem ok_X0_copyPeople {E : Env1} (hE : WF E) (l0 : Launch) {M : Mem} {M' : Mem} {v0 : Nat} {v1 : Nat} (h0 : isK E v0 0) (h1 : isK E v1 0) (hf : f_X0_copyPeople E M v0 v1 = some (M')) : Met l0 yX0_copyPeople (wsA yX0_copyPeople cX0_copyPeople 3 none) rm_X0_copyPeople (CP E M [.ref v0, .ref v1]) (CQv E M') 0 0 (eA E) := by
  unfold f_X0_copyPeople at hf
  refine mtV l0 (by decide +kernel) (Nat.le_of_ble_eq_true rfl) (L0 := [some (.ref v0), some (.ref v1), none]) rfl (fun X h hR => ?_)
  refine G_aload_n h dX0_copyPeople_0 (i := 0) rfl rfl rfl ?_
  refine G_aload_n h dX0_copyPeople_1 (i := 1) rfl rfl rfl ?_
  refine gf_X0_9 h dX0_copyPeople_2 h1 rfl ?_
  refine pf_X0_9 h dX0_copyPeople_5 h0 rfl ?_
  refine G_iconst h dX0_copyPeople_8 ki_0 rfl ?_
  refine G_istore_n h dX0_copyPeople_9 (i := 2) rfl (by decide) (L' := [some (.ref v0), some (.ref v1), some (.int (0 : Int32))]) rfl rfl ?_
  exact o_X0_copyPeople_L10 h hE hR  FU _ _ _ _ h0 h1 hf
def rm_X0_copyFrom : Room := { frames := 2, cells := 0, slots := 0, locals := 44 }
def b_X0_copyFrom_L15 (E : Env1) (k15 : Mem → Nat → Nat → Int32 → (Option (Mem))) (M : Mem) (v0 : Nat) (v1 : Nat) (v2 : Int32) : Option (Mem) :=
  if (8 : Int32) ≤ v2 then (
    (f_X4_copyFrom E M (rr E v0 6) (rr E v1 6)).bind fun x2 =>
    (f_X4_copyFrom E x2 (rr E v0 7) (rr E v1 7)).bind fun x3 =>
    (f_X4_copyFrom E x3 (rr E v0 8) (rr E v1 8)).bind fun x4 =>
    some x4)
  else (
    gd v2 8 ((f_X5_copyFrom E M (mr M (rr E v0 4) (ix v2)) (mr M (rr E v1 4) (ix v2))).bind fun x8 =>
    k15 x8 v0 v1 (v2 + 1)))
set_option maxRecDepth 100000 in
set_option maxHeartbeats 4000000 in
theorem ob_X0_copyFrom_L15 {X : Ctx} {l0 : Launch} {E : Env1} (h : Cx X l0 E RX0 cX0_copyFrom none 3 rm_X0_copyFrom) (hE : WF E) {M' : Mem} (hR : RetV X E cX0_copyFrom M') {k15 : Mem → Nat → Nat → Int32 → (Option (Mem))} (hk15 : ∀ (M : Mem) (v0 : Nat) (v1 : Nat) (v2 : Int32), isK E v0 0 → isK E v1 0 → k15 M v0 v1 v2 = some (M') → G X E (0, 0) 15 [some (.ref v0), some (.ref v1), some (.int v2)] [] M) {M : Mem} {v0 : Nat} {v1 : Nat} {v2 : Int32} (h_v0 : isK E v0 0) (h_v1 : isK E v1 0) (hf : b_X0_copyFrom_L15 E k15 M v0 v1 v2 = some (M')) : G X E (0, 0) 15 [some (.ref v0), some (.ref v1), some (.int v2)] [] M := by
  unfold b_X0_copyFrom_L15 at hf
  refine G_iload_n h dX0_copyFrom_15 (i := 2) rfl rfl rfl ?_
  refine G_bipush h dX0_copyFrom_16 kb_8 rfl ?_
  refine G_icmp_ge h dX0_copyFrom_18 (tgt := 42) (by decide) rfl (fun c1 => ?_) (fun c1 => ?_)
  · have hf := it_t c1 hf
    refine G_aload_n h dX0_copyFrom_42 (i := 0) rfl rfl rfl ?_
    refine gf_X0_39 h hE dX0_copyFrom_43 h_v0 rfl ?_
    refine G_aload_n h dX0_copyFrom_46 (i := 1) rfl rfl rfl ?_
    refine gf_X0_39 h hE dX0_copyFrom_47 h_v1 rfl ?_
    obtain ⟨x2, hx2, hf⟩ := bd hf
    refine cl_X0_78 h (ok_X4_copyFrom hE _ ((w_0_6 hE h_v0).2) ((w_0_6 hE h_v1).2) hx2) dX0_copyFrom_50 ((w_0_6 hE h_v0).2) (as := [.ref (rr E v1 6)]) rfl rfl ⟨rfl, rfl, Nat.le_of_ble_eq_true rfl, Nat.le_of_ble_eq_true rfl⟩ rfl (Nat.le_of_ble_eq_true rfl) ?_
    refine G_aload_n h dX0_copyFrom_53 (i := 0) rfl rfl rfl ?_
    refine gf_X0_43 h hE dX0_copyFrom_54 h_v0 rfl ?_
    refine G_aload_n h dX0_copyFrom_57 (i := 1) rfl rfl rfl ?_
    refine gf_X0_43 h hE dX0_copyFrom_58 h_v1 rfl ?_
    obtain ⟨x3, hx3, hf⟩ := bd hf
    refine cl_X0_78 h (ok_X4_copyFrom hE _ ((w_0_7 hE h_v0).2) ((w_0_7 hE h_v1).2) hx3) dX0_copyFrom_61 ((w_0_7 hE h_v0).2) (as := [.ref (rr E v1 7)]) rfl rfl ⟨rfl, rfl, Nat.le_of_ble_eq_true rfl, Nat.le_of_ble_eq_true rfl⟩ rfl (Nat.le_of_ble_eq_true rfl) ?_
    refine G_aload_n h dX0_copyFrom_64 (i := 0) rfl rfl rfl ?_
    refine gf_X0_46 h hE dX0_copyFrom_65 h_v0 rfl ?_
    refine G_aload_n h dX0_copyFrom_68 (i := 1) rfl rfl rfl ?_
    refine gf_X0_46 h hE dX0_copyFrom_69 h_v1 rfl ?_
    obtain ⟨x4, hx4, hf⟩ := bd hf
    refine cl_X0_78 h (ok_X4_copyFrom hE _ ((w_0_8 hE h_v0).2) ((w_0_8 hE h_v1).2) hx4) dX0_copyFrom_72 ((w_0_8 hE h_v0).2) (as := [.ref (rr E v1 8)]) rfl rfl ⟨rfl, rfl, Nat.le_of_ble_eq_true rfl, Nat.le_of_ble_eq_true rfl⟩ rfl (Nat.le_of_ble_eq_true rfl) ?_
    exact pwV hR dX0_copyFrom_75 hf
  · have hf := it_f c1 hf
    refine G_aload_n h dX0_copyFrom_21 (i := 0) rfl rfl rfl ?_
    refine gf_X0_29 h hE dX0_copyFrom_22 h_v0 rfl ?_
    refine G_iload_n h dX0_copyFrom_25 (i := 2) rfl rfl rfl ?_
    obtain ⟨g5, hf⟩ := gd_some hf
    refine G_aldS h hE dX0_copyFrom_26 ((w_0_4 hE h_v0).2) g5 (jx := (ix v2)) rfl rfl (fun hs6 => ?_)
    refine G_aload_n h dX0_copyFrom_27 (i := 1) rfl rfl rfl ?_
    refine gf_X0_29 h hE dX0_copyFrom_28 h_v1 rfl ?_
    refine G_iload_n h dX0_copyFrom_31 (i := 2) rfl rfl rfl ?_
    refine G_aldS h hE dX0_copyFrom_32 ((w_0_4 hE h_v1).2) g5 (jx := (ix v2)) rfl rfl (fun hs7 => ?_)
    obtain ⟨x8, hx8, hf⟩ := bd hf
    refine cl_X0_70 h (ok_X5_copyFrom hE _ hs6 hs7 hx8) dX0_copyFrom_33 hs6 (as := [.ref (mr M (rr E v1 4) (ix v2))]) rfl rfl ⟨rfl, rfl, Nat.le_of_ble_eq_true rfl, Nat.le_of_ble_eq_true rfl⟩ rfl (Nat.le_of_ble_eq_true rfl) ?_
    refine G_iinc2 h dX0_copyFrom_36 rfl ki_1 (by decide) (L' := [some (.ref v0), some (.ref v1), some (.int (v2 + 1))]) rfl rfl ?_
    refine G_goto h dX0_copyFrom_39 (tgt := 15) (by decide) ?_
    exact hk15 _ _ _ _ h_v0 h_v1 hf
def f_X0_copyFrom_L15 (E : Env1) : Nat → Mem → Nat → Nat → Int32 → (Option (Mem))
  | 0 => fun _ _ _ _ => none
  | n + 1 => b_X0_copyFrom_L15 E (f_X0_copyFrom_L15 E n)
theorem o_X0_copyFrom_L15 {X : Ctx} {l0 : Launch} {E : Env1} (h : Cx X l0 E RX0 cX0_copyFrom none 3 rm_X0_copyFrom) (hE : WF E) {M' : Mem} (hR : RetV X E cX0_copyFrom M') : ∀ (n : Nat) (M : Mem) (v0 : Nat) (v1 : Nat) (v2 : Int32), isK E v0 0 → isK E v1 0 → f_X0_copyFrom_L15 E n M v0 v1 v2 = some (M') → G X E (0, 0) 15 [some (.ref v0), some (.ref v1), some (.int v2)] [] M := by
  intro n
  induction n with
  | zero =>
    intro _ _ _ _ a0 a1 hf
    have h0 : (none : Option (Mem)) = some (M') := hf
    cases h0
  | succ n ih =>
    intro _ _ _ _ a0 a1 hf
    exact ob_X0_copyFrom_L15 h hE hR  ih a0 a1 hf
def f_X0_copyFrom (E : Env1) (M : Mem) (v0 : Nat) (v1 : Nat) : Option (Mem) :=
  (f_X0_copyPeople E M v0 v1).bind fun x1 =>
  f_X0_copyFrom_L15 E FU (wi x1 v0 5 (mi x1 v1 5)) v0 v1 (0 : Int32)
set_option maxRecDepth 100000 in
set_option maxHeartbeats 4000000 in
theorem ok_X0_copyFrom {E : Env1} (hE : WF E) (l0 : Launch) {M : Mem} {M' : Mem} {v0 : Nat} {v1 : Nat} (h0 : isK E v0 0) (h1 : isK E v1 0) (hf : f_X0_copyFrom E M v0 v1 = some (M')) : Met l0 yX0_copyFrom (wsA yX0_copyFrom cX0_copyFrom 3 none) rm_X0_copyFrom (CP E M [.ref v0, .ref v1]) (CQv E M') 0 0 (eA E) := by
  unfold f_X0_copyFrom at hf
  refine mtV l0 (by decide +kernel) (Nat.le_of_ble_eq_true rfl) (L0 := [some (.ref v0), some (.ref v1), none]) rfl (fun X h hR => ?_)
  refine G_aload_n h dX0_copyFrom_0 (i := 0) rfl rfl rfl ?_
  refine G_aload_n h dX0_copyFrom_1 (i := 1) rfl rfl rfl ?_
  obtain ⟨x1, hx1, hf⟩ := bd hf
  refine cl_X0_74 h (ok_X0_copyPeople hE _ h0 h1 hx1) dX0_copyFrom_2 h0 (as := [.ref v1]) rfl rfl ⟨rfl, rfl, Nat.le_of_ble_eq_true rfl, Nat.le_of_ble_eq_true rfl⟩ rfl (Nat.le_of_ble_eq_true rfl) ?_
  refine G_aload_n h dX0_copyFrom_5 (i := 0) rfl rfl rfl ?_
  refine G_aload_n h dX0_copyFrom_6 (i := 1) rfl rfl rfl ?_
  refine gf_X0_33 h dX0_copyFrom_7 h1 rfl ?_
  refine pf_X0_33 h dX0_copyFrom_10 h0 rfl ?_
  refine G_iconst h dX0_copyFrom_13 ki_0 rfl ?_
  refine G_istore_n h dX0_copyFrom_14 (i := 2) rfl (by decide) (L' := [some (.ref v0), some (.ref v1), some (.int (0 : Int32))]) rfl rfl ?_
  exact o_X0_copyFrom_L15 h hE hR  FU _ _ _ _ h0 h1 hf
def rm_X0_worth : Room := { frames := 1, cells := 0, slots := 0, locals := 25 }
def f_X0_worth (E : Env1) (M : Mem) (v0 : Nat) (v1 : Int32) (v2 : Int32) : Option (Int32) :=
  gd v1 6 (some (f_X2_answer E M (rr E v0 10) (mi M (rr E v0 1) (ix v1)) (mi M (rr E (rr E v0 3) 2) (ix v1)) (v2 - v2 / (24 : Int32) * (24 : Int32))))
set_option maxRecDepth 100000 in
set_option maxHeartbeats 4000000 in
theorem ok_X0_worth {E : Env1} (hE : WF E) (l0 : Launch) {M : Mem} {v0 : Nat} {v1 : Int32} {v2 : Int32} {r : Int32} (h0 : isK E v0 0) (hf : f_X0_worth E M v0 v1 v2 = some r) : Met l0 yX0_worth (wsA yX0_worth cX0_worth 3 (some .int)) rm_X0_worth (CP E M [.ref v0, .int v1, .int v2]) (CQi E r M) 0 0 (eA E) := by
  unfold f_X0_worth at hf
  refine mtI l0 (by decide +kernel) (Nat.le_of_ble_eq_true rfl) (L0 := [some (.ref v0), some (.int v1), some (.int v2)]) rfl (fun X h hR => ?_)
  refine G_aload_n h dX0_worth_0 (i := 0) rfl rfl rfl ?_
  refine gf_X0_59 h hE dX0_worth_1 h0 rfl ?_
  refine G_aload_n h dX0_worth_4 (i := 0) rfl rfl rfl ?_
  refine gf_X0_15 h hE dX0_worth_5 h0 rfl ?_
  refine G_iload_n h dX0_worth_8 (i := 1) rfl rfl rfl ?_
  obtain ⟨g1, hf⟩ := gd_some hf
  refine G_iald h dX0_worth_9 ((w_0_1 hE h0).2) g1 (jx := (ix v1)) rfl rfl ?_
  refine G_aload_n h dX0_worth_10 (i := 0) rfl rfl rfl ?_
  refine gf_X0_25 h hE dX0_worth_11 h0 rfl ?_
  refine gf_X0_88 h hE dX0_worth_14 ((w_0_3 hE h0).2) rfl ?_
  refine G_iload_n h dX0_worth_17 (i := 1) rfl rfl rfl ?_
  refine G_iald h dX0_worth_18 ((w_4_2 hE ((w_0_3 hE h0).2)).2) g1 (jx := (ix v1)) rfl rfl ?_
  refine G_iload_n h dX0_worth_19 (i := 2) rfl rfl rfl ?_
  refine G_bipush h dX0_worth_20 kb_24 rfl ?_
  refine G_irem h dX0_worth_22 (by decide) rfl ?_
  refine cl_X0_91_k1 h (ok_X2_answer hE _ ((w_0_10 hE h0).2) (r := f_X2_answer E M (rr E v0 10) (mi M (rr E v0 1) (ix v1)) (mi M (rr E (rr E v0 3) 2) (ix v1)) (v2 - v2 / (24 : Int32) * (24 : Int32))) rfl) dX0_worth_23 ((w_0_10 hE h0).2) (as := [.int (mi M (rr E v0 1) (ix v1)), .int (mi M (rr E (rr E v0 3) 2) (ix v1)), .int (v2 - v2 / (24 : Int32) * (24 : Int32))]) rfl rfl ⟨rfl, rfl, Nat.le_of_ble_eq_true rfl, Nat.le_of_ble_eq_true rfl⟩ rfl (Nat.le_of_ble_eq_true rfl) ?_
  exact roI hR dX0_worth_26 hf
def rm_X0_wordOf : Room := { frames := 2, cells := 0, slots := 0, locals := 47 }
def b_X0_wordOf_L5 (E : Env1) (M : Mem) (k5 : Nat → Int32 → Int32 → Int32 → Int32 → (Option (Int32))) (v0 : Nat) (v1 : Int32) (v2 : Int32) (v3 : Int32) (v4 : Int32) : Option (Int32) :=
  if (mi M v0 0) ≤ v4 then (some v3)
  else (
    if (6 : Int32) ≤ v4 then (some v3)
    else (
      if ((v1 >>> (v4 &&& 31)) &&& (1 : Int32)) = (1 : Int32) then (
        (f_X0_worth E M v0 v4 v2).bind fun x4 =>
        k5 v0 v1 v2 (v3 + x4) (v4 + 1))
      else (k5 v0 v1 v2 v3 (v4 + 1))))
set_option maxRecDepth 100000 in
set_option maxHeartbeats 4000000 in
theorem ob_X0_wordOf_L5 {X : Ctx} {l0 : Launch} {E : Env1} (h : Cx X l0 E RX0 cX0_wordOf (some .int) 5 rm_X0_wordOf) (hE : WF E) {M : Mem} {r : Int32} (hR : RetI X E cX0_wordOf r M) {k5 : Nat → Int32 → Int32 → Int32 → Int32 → (Option (Int32))} (hk5 : ∀ (v0 : Nat) (v1 : Int32) (v2 : Int32) (v3 : Int32) (v4 : Int32), isK E v0 0 → k5 v0 v1 v2 v3 v4 = some r → G X E (0, 0) 5 [some (.ref v0), some (.int v1), some (.int v2), some (.int v3), some (.int v4)] [] M) {v0 : Nat} {v1 : Int32} {v2 : Int32} {v3 : Int32} {v4 : Int32} (h_v0 : isK E v0 0) (hf : b_X0_wordOf_L5 E M k5 v0 v1 v2 v3 v4 = some r) : G X E (0, 0) 5 [some (.ref v0), some (.int v1), some (.int v2), some (.int v3), some (.int v4)] [] M := by
  unfold b_X0_wordOf_L5 at hf
  refine G_iload h dX0_wordOf_5 rfl rfl ?_
  refine G_aload_n h dX0_wordOf_7 (i := 0) rfl rfl rfl ?_
  refine gf_X0_9 h dX0_wordOf_8 h_v0 rfl ?_
  refine G_icmp_ge h dX0_wordOf_11 (tgt := 47) (by decide) rfl (fun c1 => ?_) (fun c1 => ?_)
  · have hf := it_t c1 hf
    refine G_iload_n h dX0_wordOf_47 (i := 3) rfl rfl rfl ?_
    exact roI hR dX0_wordOf_48 hf
  · have hf := it_f c1 hf
    refine G_iload h dX0_wordOf_14 rfl rfl ?_
    refine G_bipush h dX0_wordOf_16 kb_6 rfl ?_
    refine G_icmp_ge h dX0_wordOf_18 (tgt := 47) (by decide) rfl (fun c2 => ?_) (fun c2 => ?_)
    · have hf := it_t c2 hf
      refine G_iload_n h dX0_wordOf_47 (i := 3) rfl rfl rfl ?_
      exact roI hR dX0_wordOf_48 hf
    · have hf := it_f c2 hf
      refine G_iload_n h dX0_wordOf_21 (i := 1) rfl rfl rfl ?_
      refine G_iload h dX0_wordOf_22 rfl rfl ?_
      refine G_ishr h dX0_wordOf_24 rfl ?_
      refine G_iconst h dX0_wordOf_25 ki_1 rfl ?_
      refine G_iand h dX0_wordOf_26 rfl ?_
      refine G_iconst h dX0_wordOf_27 ki_1 rfl ?_
      refine G_icmp_ne h dX0_wordOf_28 (tgt := 41) (by decide) rfl (fun c3 => ?_) (fun c3 => ?_)
      · have hf := it_f c3 hf
        refine G_iinc2 h dX0_wordOf_41 rfl ki_1 (by decide) (L' := [some (.ref v0), some (.int v1), some (.int v2), some (.int v3), some (.int (v4 + 1))]) rfl rfl ?_
        refine G_goto h dX0_wordOf_44 (tgt := 5) (by decide) ?_
        exact hk5 _ _ _ _ _ h_v0 hf
      · have hf := it_t c3 hf
        refine G_iload_n h dX0_wordOf_31 (i := 3) rfl rfl rfl ?_
        refine G_aload_n h dX0_wordOf_32 (i := 0) rfl rfl rfl ?_
        refine G_iload h dX0_wordOf_33 rfl rfl ?_
        refine G_iload_n h dX0_wordOf_35 (i := 2) rfl rfl rfl ?_
        obtain ⟨x4, hx4, hf⟩ := bd hf
        refine cl_X0_103 h (ok_X0_worth hE _ h_v0 hx4) dX0_wordOf_36 h_v0 (as := [.int v4, .int v2]) rfl rfl ⟨rfl, rfl, Nat.le_of_ble_eq_true rfl, Nat.le_of_ble_eq_true rfl⟩ rfl (Nat.le_of_ble_eq_true rfl) ?_
        refine G_iadd h dX0_wordOf_39 rfl ?_
        refine G_istore_n h dX0_wordOf_40 (i := 3) rfl (by decide) (L' := [some (.ref v0), some (.int v1), some (.int v2), some (.int (v3 + x4)), some (.int v4)]) rfl rfl ?_
        refine G_iinc2 h dX0_wordOf_41 rfl ki_1 (by decide) (L' := [some (.ref v0), some (.int v1), some (.int v2), some (.int (v3 + x4)), some (.int (v4 + 1))]) rfl rfl ?_
        refine G_goto h dX0_wordOf_44 (tgt := 5) (by decide) ?_
        exact hk5 _ _ _ _ _ h_v0 hf
def f_X0_wordOf_L5 (E : Env1) (M : Mem) : Nat → Nat → Int32 → Int32 → Int32 → Int32 → (Option (Int32))
  | 0 => fun _ _ _ _ _ => none
  | n + 1 => b_X0_wordOf_L5 E M (f_X0_wordOf_L5 E M n)
theorem o_X0_wordOf_L5 {X : Ctx} {l0 : Launch} {E : Env1} (h : Cx X l0 E RX0 cX0_wordOf (some .int) 5 rm_X0_wordOf) (hE : WF E) {M : Mem} {r : Int32} (hR : RetI X E cX0_wordOf r M) : ∀ (n : Nat) (v0 : Nat) (v1 : Int32) (v2 : Int32) (v3 : Int32) (v4 : Int32), isK E v0 0 → f_X0_wordOf_L5 E M n v0 v1 v2 v3 v4 = some r → G X E (0, 0) 5 [some (.ref v0), some (.int v1), some (.int v2), some (.int v3), some (.int v4)] [] M := by
  intro n
  induction n with
  | zero =>
    intro _ _ _ _ _ a0 hf
    have h0 : (none : Option (Int32)) = some r := hf
    cases h0
  | succ n ih =>
    intro _ _ _ _ _ a0 hf
    exact ob_X0_wordOf_L5 h hE hR  ih a0 hf
def f_X0_wordOf (E : Env1) (M : Mem) (v0 : Nat) (v1 : Int32) (v2 : Int32) : Option (Int32) :=
  f_X0_wordOf_L5 E M FU v0 v1 v2 (0 : Int32) (0 : Int32)
set_option maxRecDepth 100000 in
set_option maxHeartbeats 4000000 in
theorem ok_X0_wordOf {E : Env1} (hE : WF E) (l0 : Launch) {M : Mem} {v0 : Nat} {v1 : Int32} {v2 : Int32} {r : Int32} (h0 : isK E v0 0) (hf : f_X0_wordOf E M v0 v1 v2 = some r) : Met l0 yX0_wordOf (wsA yX0_wordOf cX0_wordOf 5 (some .int)) rm_X0_wordOf (CP E M [.ref v0, .int v1, .int v2]) (CQi E r M) 0 0 (eA E) := by
  unfold f_X0_wordOf at hf
  refine mtI l0 (by decide +kernel) (Nat.le_of_ble_eq_true rfl) (L0 := [some (.ref v0), some (.int v1), some (.int v2), none, none]) rfl (fun X h hR => ?_)
  refine G_iconst h dX0_wordOf_0 ki_0 rfl ?_
  refine G_istore_n h dX0_wordOf_1 (i := 3) rfl (by decide) (L' := [some (.ref v0), some (.int v1), some (.int v2), some (.int (0 : Int32)), none]) rfl rfl ?_
  refine G_iconst h dX0_wordOf_2 ki_0 rfl ?_
  refine G_istore h dX0_wordOf_3  (by decide) (L' := [some (.ref v0), some (.int v1), some (.int v2), some (.int (0 : Int32)), some (.int (0 : Int32))]) rfl rfl ?_
  exact o_X0_wordOf_L5 h hE hR  FU _ _ _ _ _ h0 hf
def rm_X0_wanted : Room := { frames := 2, cells := 0, slots := 0, locals := 47 }
def f_X0_wanted (E : Env1) (M : Mem) (v0 : Nat) (v1 : Int32) (v2 : Int32) (v3 : Int32) : Option (Int32) :=
  gd v2 8 (gd v1 6 (some (f_X6_answer E M (rr E v0 9) (mi M (rr E (rr E v0 3) 0) (ix v2)) (mi M (rr E v0 2) (ix v1)) (v3 - v3 / (24 : Int32) * (24 : Int32)))))
set_option maxRecDepth 100000 in
set_option maxHeartbeats 4000000 in
theorem ok_X0_wanted {E : Env1} (hE : WF E) (l0 : Launch) {M : Mem} {v0 : Nat} {v1 : Int32} {v2 : Int32} {v3 : Int32} {r : Int32} (h0 : isK E v0 0) (hf : f_X0_wanted E M v0 v1 v2 v3 = some r) : Met l0 yX0_wanted (wsA yX0_wanted cX0_wanted 4 (some .int)) rm_X0_wanted (CP E M [.ref v0, .int v1, .int v2, .int v3]) (CQi E r M) 0 0 (eA E) := by
  unfold f_X0_wanted at hf
  refine mtI l0 (by decide +kernel) (Nat.le_of_ble_eq_true rfl) (L0 := [some (.ref v0), some (.int v1), some (.int v2), some (.int v3)]) rfl (fun X h hR => ?_)
  refine G_aload_n h dX0_wanted_0 (i := 0) rfl rfl rfl ?_
  refine gf_X0_52 h hE dX0_wanted_1 h0 rfl ?_
  refine G_aload_n h dX0_wanted_4 (i := 0) rfl rfl rfl ?_
  refine gf_X0_25 h hE dX0_wanted_5 h0 rfl ?_
  refine gf_X0_95 h hE dX0_wanted_8 ((w_0_3 hE h0).2) rfl ?_
  refine G_iload_n h dX0_wanted_11 (i := 2) rfl rfl rfl ?_
  obtain ⟨g1, hf⟩ := gd_some hf
  refine G_iald h dX0_wanted_12 ((w_4_0 hE ((w_0_3 hE h0).2)).2) g1 (jx := (ix v2)) rfl rfl ?_
  refine G_aload_n h dX0_wanted_13 (i := 0) rfl rfl rfl ?_
  refine gf_X0_19 h hE dX0_wanted_14 h0 rfl ?_
  refine G_iload_n h dX0_wanted_17 (i := 1) rfl rfl rfl ?_
  obtain ⟨g2, hf⟩ := gd_some hf
  refine G_iald h dX0_wanted_18 ((w_0_2 hE h0).2) g2 (jx := (ix v1)) rfl rfl ?_
  refine G_iload_n h dX0_wanted_19 (i := 3) rfl rfl rfl ?_
  refine G_bipush h dX0_wanted_20 kb_24 rfl ?_
  refine G_irem h dX0_wanted_22 (by decide) rfl ?_
  refine cl_X0_98_k5 h (ok_X6_answer hE _ ((w_0_9 hE h0).2) (r := f_X6_answer E M (rr E v0 9) (mi M (rr E (rr E v0 3) 0) (ix v2)) (mi M (rr E v0 2) (ix v1)) (v3 - v3 / (24 : Int32) * (24 : Int32))) rfl) dX0_wanted_23 ((w_0_9 hE h0).2) (as := [.int (mi M (rr E (rr E v0 3) 0) (ix v2)), .int (mi M (rr E v0 2) (ix v1)), .int (v3 - v3 / (24 : Int32) * (24 : Int32))]) rfl rfl ⟨rfl, rfl, Nat.le_of_ble_eq_true rfl, Nat.le_of_ble_eq_true rfl⟩ rfl (Nat.le_of_ble_eq_true rfl) ?_
  exact roI hR dX0_wanted_26 hf
def rm_X0_couldMeet : Room := { frames := 3, cells := 0, slots := 0, locals := 71 }
def f_X0_couldMeet (E : Env1) (M : Mem) (v0 : Nat) (v1 : Int32) (v2 : Int32) (v3 : Int32) (v4 : Int32) : Option (Int32) :=
  (f_X5_isKnown E M (rr E v0 3) v1 v2).bind fun x2 =>
  if x2 = 0 then (
    (f_X0_wordOf E M v0 v3 v4).bind fun x4 =>
    (f_X0_wanted E M v0 v1 v2 v4).bind fun x5 =>
    if x4 < x5 then (some (0 : Int32))
    else (some (1 : Int32)))
  else (some (1 : Int32))
set_option maxRecDepth 100000 in
set_option maxHeartbeats 4000000 in
theorem ok_X0_couldMeet {E : Env1} (hE : WF E) (l0 : Launch) {M : Mem} {v0 : Nat} {v1 : Int32} {v2 : Int32} {v3 : Int32} {v4 : Int32} {r : Int32} (h0 : isK E v0 0) (hf : f_X0_couldMeet E M v0 v1 v2 v3 v4 = some r) : Met l0 yX0_couldMeet (wsA yX0_couldMeet cX0_couldMeet 5 (some .boolean)) rm_X0_couldMeet (CP E M [.ref v0, .int v1, .int v2, .int v3, .int v4]) (CQz E r M) 0 0 (eA E) := by
  unfold f_X0_couldMeet at hf
  refine mtZ l0 (by decide +kernel) (Nat.le_of_ble_eq_true rfl) (L0 := [some (.ref v0), some (.int v1), some (.int v2), some (.int v3), some (.int v4)]) rfl (fun X h hR => ?_)
  refine G_aload_n h dX0_couldMeet_0 (i := 0) rfl rfl rfl ?_
  refine gf_X0_25 h hE dX0_couldMeet_1 h0 rfl ?_
  refine G_iload_n h dX0_couldMeet_4 (i := 1) rfl rfl rfl ?_
  refine G_iload_n h dX0_couldMeet_5 (i := 2) rfl rfl rfl ?_
  obtain ⟨x2, hx2, hf⟩ := bd hf
  refine cl_X0_107 h (ok_X5_isKnown hE _ ((w_0_3 hE h0).2) hx2) dX0_couldMeet_6 ((w_0_3 hE h0).2) (as := [.int v1, .int v2]) rfl rfl ⟨rfl, rfl, Nat.le_of_ble_eq_true rfl, Nat.le_of_ble_eq_true rfl⟩ rfl (Nat.le_of_ble_eq_true rfl) (fun z1 => ?_)
  refine G_if_ne h dX0_couldMeet_9 (tgt := 30) (by decide) rfl (fun c3 => ?_) (fun c3 => ?_)
  · have hf := it_f c3 hf
    refine G_iconst h dX0_couldMeet_30 ki_1 rfl ?_
    refine G_goto h dX0_couldMeet_31 (tgt := 35) (by decide) ?_
    exact roZ hR dX0_couldMeet_35 (Or.inr rfl) hf
  · have hf := it_t c3 hf
    refine G_aload_n h dX0_couldMeet_12 (i := 0) rfl rfl rfl ?_
    refine G_iload_n h dX0_couldMeet_13 (i := 3) rfl rfl rfl ?_
    refine G_iload h dX0_couldMeet_14 rfl rfl ?_
    obtain ⟨x4, hx4, hf⟩ := bd hf
    refine cl_X0_111 h (ok_X0_wordOf hE _ h0 hx4) dX0_couldMeet_16 h0 (as := [.int v3, .int v4]) rfl rfl ⟨rfl, rfl, Nat.le_of_ble_eq_true rfl, Nat.le_of_ble_eq_true rfl⟩ rfl (Nat.le_of_ble_eq_true rfl) ?_
    refine G_aload_n h dX0_couldMeet_19 (i := 0) rfl rfl rfl ?_
    refine G_iload_n h dX0_couldMeet_20 (i := 1) rfl rfl rfl ?_
    refine G_iload_n h dX0_couldMeet_21 (i := 2) rfl rfl rfl ?_
    refine G_iload h dX0_couldMeet_22 rfl rfl ?_
    obtain ⟨x5, hx5, hf⟩ := bd hf
    refine cl_X0_114 h (ok_X0_wanted hE _ h0 hx5) dX0_couldMeet_24 h0 (as := [.int v1, .int v2, .int v4]) rfl rfl ⟨rfl, rfl, Nat.le_of_ble_eq_true rfl, Nat.le_of_ble_eq_true rfl⟩ rfl (Nat.le_of_ble_eq_true rfl) ?_
    refine G_icmp_lt h dX0_couldMeet_27 (tgt := 34) (by decide) rfl (fun c6 => ?_) (fun c6 => ?_)
    · have hf := it_t c6 hf
      refine G_iconst h dX0_couldMeet_34 ki_0 rfl ?_
      exact roZ hR dX0_couldMeet_35 (Or.inl rfl) hf
    · have hf := it_f c6 hf
      refine G_iconst h dX0_couldMeet_30 ki_1 rfl ?_
      refine G_goto h dX0_couldMeet_31 (tgt := 35) (by decide) ?_
      exact roZ hR dX0_couldMeet_35 (Or.inr rfl) hf
def rm_X0_digestOn : Room := { frames := 3, cells := 0, slots := 0, locals := 72 }
def f_X0_digestOn_L142 (E : Env1) (M : Mem) (v0 : Nat) (v3 : Int64) : Option (Int64) :=
  (f_X4_digestOn E M (rr E v0 6) v3 (3 : Int32)).bind fun x1 =>
  (f_X4_digestOn E M (rr E v0 7) x1 (4 : Int32)).bind fun x2 =>
  (f_X4_digestOn E M (rr E v0 8) x2 (4 : Int32)).bind fun x3 =>
  some x3
set_option maxRecDepth 100000 in
set_option maxHeartbeats 4000000 in
theorem o_X0_digestOn_L142 {X : Ctx} {l0 : Launch} {E : Env1} (h : Cx X l0 E RX0 cX0_digestOn (some .long) 6 rm_X0_digestOn) (hE : WF E) {M : Mem} {r : Int64} (hR : RetL X E cX0_digestOn r M) {v0 : Nat} {v3 : Int64} (h_v0 : isK E v0 0) (hf : f_X0_digestOn_L142 E M v0 v3 = some r) : G X E (0, 0) 142 [some (.ref v0), none, none, some (.long v3), none, none] [] M := by
  unfold f_X0_digestOn_L142 at hf
  refine G_aload_n h dX0_digestOn_142 (i := 0) rfl rfl rfl ?_
  refine gf_X0_39 h hE dX0_digestOn_143 h_v0 rfl ?_
  refine G_lload_n h dX0_digestOn_146 (i := 3) rfl rfl rfl ?_
  refine G_iconst h dX0_digestOn_147 ki_3 rfl ?_
  obtain ⟨x1, hx1, hf⟩ := bd hf
  refine cl_X0_152 h (ok_X4_digestOn hE _ ((w_0_6 hE h_v0).2) hx1) dX0_digestOn_148 ((w_0_6 hE h_v0).2) (as := [.long v3, .int (3 : Int32)]) rfl rfl ⟨rfl, rfl, Nat.le_of_ble_eq_true rfl, Nat.le_of_ble_eq_true rfl⟩ rfl (Nat.le_of_ble_eq_true rfl) ?_
  refine G_lstore_n h dX0_digestOn_151 (i := 3) rfl (by decide) (L' := [some (.ref v0), none, none, some (.long x1), none, none]) rfl rfl ?_
  refine G_aload_n h dX0_digestOn_152 (i := 0) rfl rfl rfl ?_
  refine gf_X0_43 h hE dX0_digestOn_153 h_v0 rfl ?_
  refine G_lload_n h dX0_digestOn_156 (i := 3) rfl rfl rfl ?_
  refine G_iconst h dX0_digestOn_157 ki_4 rfl ?_
  obtain ⟨x2, hx2, hf⟩ := bd hf
  refine cl_X0_152 h (ok_X4_digestOn hE _ ((w_0_7 hE h_v0).2) hx2) dX0_digestOn_158 ((w_0_7 hE h_v0).2) (as := [.long x1, .int (4 : Int32)]) rfl rfl ⟨rfl, rfl, Nat.le_of_ble_eq_true rfl, Nat.le_of_ble_eq_true rfl⟩ rfl (Nat.le_of_ble_eq_true rfl) ?_
  refine G_lstore_n h dX0_digestOn_161 (i := 3) rfl (by decide) (L' := [some (.ref v0), none, none, some (.long x2), none, none]) rfl rfl ?_
  refine G_aload_n h dX0_digestOn_162 (i := 0) rfl rfl rfl ?_
  refine gf_X0_46 h hE dX0_digestOn_163 h_v0 rfl ?_
  refine G_lload_n h dX0_digestOn_166 (i := 3) rfl rfl rfl ?_
  refine G_iconst h dX0_digestOn_167 ki_4 rfl ?_
  obtain ⟨x3, hx3, hf⟩ := bd hf
  refine cl_X0_152 h (ok_X4_digestOn hE _ ((w_0_8 hE h_v0).2) hx3) dX0_digestOn_168 ((w_0_8 hE h_v0).2) (as := [.long x2, .int (4 : Int32)]) rfl rfl ⟨rfl, rfl, Nat.le_of_ble_eq_true rfl, Nat.le_of_ble_eq_true rfl⟩ rfl (Nat.le_of_ble_eq_true rfl) ?_
  exact roL hR dX0_digestOn_171 hf
def b_X0_digestOn_L54 (E : Env1) (M : Mem) (k54 : Nat → Int64 → Int32 → (Option (Int64))) (v0 : Nat) (v3 : Int64) (v5 : Int32) : Option (Int64) :=
  if (mi M v0 0) ≤ v5 then (f_X0_digestOn_L142 E M v0 v3)
  else (
    if (6 : Int32) ≤ v5 then (f_X0_digestOn_L142 E M v0 v3)
    else (
      gd v5 6 (nm (((31 : Int64) * v3) + ((mi M (rr E v0 1) (ix v5)).toInt64)) fun x4 =>
      nm (((31 : Int64) * x4) + ((mi M (rr E v0 2) (ix v5)).toInt64)) fun x5 =>
      nm (((31 : Int64) * x5) + ((mi M (rr E (rr E v0 3) 2) (ix v5)).toInt64)) fun x6 =>
      nm (((31 : Int64) * x6) + ((mi M (rr E (rr E v0 3) 1) (ix v5)).toInt64)) fun x7 =>
      k54 v0 x7 (v5 + 1))))
set_option maxRecDepth 100000 in
set_option maxHeartbeats 4000000 in
theorem ob_X0_digestOn_L54 {X : Ctx} {l0 : Launch} {E : Env1} (h : Cx X l0 E RX0 cX0_digestOn (some .long) 6 rm_X0_digestOn) (hE : WF E) {M : Mem} {r : Int64} (hR : RetL X E cX0_digestOn r M) {k54 : Nat → Int64 → Int32 → (Option (Int64))} (hk54 : ∀ (v0 : Nat) (v3 : Int64) (v5 : Int32), isK E v0 0 → k54 v0 v3 v5 = some r → G X E (0, 0) 54 [some (.ref v0), none, none, some (.long v3), none, some (.int v5)] [] M) {v0 : Nat} {v3 : Int64} {v5 : Int32} (h_v0 : isK E v0 0) (hf : b_X0_digestOn_L54 E M k54 v0 v3 v5 = some r) : G X E (0, 0) 54 [some (.ref v0), none, none, some (.long v3), none, some (.int v5)] [] M := by
  unfold b_X0_digestOn_L54 at hf
  refine G_iload h dX0_digestOn_54 rfl rfl ?_
  refine G_aload_n h dX0_digestOn_56 (i := 0) rfl rfl rfl ?_
  refine gf_X0_9 h dX0_digestOn_57 h_v0 rfl ?_
  refine G_icmp_ge h dX0_digestOn_60 (tgt := 142) (by decide) rfl (fun c1 => ?_) (fun c1 => ?_)
  · have hf := it_t c1 hf
    refine G_mskL [true, false, false, true, false, false] (L' := [some (.ref v0), none, none, some (.long v3), none, none]) rfl ?_
    exact o_X0_digestOn_L142 h hE hR h_v0 hf
  · have hf := it_f c1 hf
    refine G_iload h dX0_digestOn_63 rfl rfl ?_
    refine G_bipush h dX0_digestOn_65 kb_6 rfl ?_
    refine G_icmp_ge h dX0_digestOn_67 (tgt := 142) (by decide) rfl (fun c2 => ?_) (fun c2 => ?_)
    · have hf := it_t c2 hf
      refine G_mskL [true, false, false, true, false, false] (L' := [some (.ref v0), none, none, some (.long v3), none, none]) rfl ?_
      exact o_X0_digestOn_L142 h hE hR h_v0 hf
    · have hf := it_f c2 hf
      refine G_ldc2 h q914 dX0_digestOn_70 rfl ?_
      refine G_lload_n h dX0_digestOn_73 (i := 3) rfl rfl rfl ?_
      refine G_lmul h dX0_digestOn_74 rfl ?_
      refine G_aload_n h dX0_digestOn_75 (i := 0) rfl rfl rfl ?_
      refine gf_X0_15 h hE dX0_digestOn_76 h_v0 rfl ?_
      refine G_iload h dX0_digestOn_79 rfl rfl ?_
      obtain ⟨g3, hf⟩ := gd_some hf
      refine G_iald h dX0_digestOn_81 ((w_0_1 hE h_v0).2) g3 (jx := (ix v5)) rfl rfl ?_
      refine G_i2l h dX0_digestOn_82 rfl ?_
      refine G_ladd h dX0_digestOn_83 rfl ?_
      refine G_nml (fun x4 hx4 => ?_)
      have hf := nm_eq hx4 hf
      refine G_lstore_n h dX0_digestOn_84 (i := 3) rfl (by decide) (L' := [some (.ref v0), none, none, some (.long x4), none, some (.int v5)]) rfl rfl ?_
      refine G_ldc2 h q914 dX0_digestOn_85 rfl ?_
      refine G_lload_n h dX0_digestOn_88 (i := 3) rfl rfl rfl ?_
      refine G_lmul h dX0_digestOn_89 rfl ?_
      refine G_aload_n h dX0_digestOn_90 (i := 0) rfl rfl rfl ?_
      refine gf_X0_19 h hE dX0_digestOn_91 h_v0 rfl ?_
      refine G_iload h dX0_digestOn_94 rfl rfl ?_
      refine G_iald h dX0_digestOn_96 ((w_0_2 hE h_v0).2) g3 (jx := (ix v5)) rfl rfl ?_
      refine G_i2l h dX0_digestOn_97 rfl ?_
      refine G_ladd h dX0_digestOn_98 rfl ?_
      refine G_nml (fun x5 hx5 => ?_)
      have hf := nm_eq hx5 hf
      refine G_lstore_n h dX0_digestOn_99 (i := 3) rfl (by decide) (L' := [some (.ref v0), none, none, some (.long x5), none, some (.int v5)]) rfl rfl ?_
      refine G_ldc2 h q914 dX0_digestOn_100 rfl ?_
      refine G_lload_n h dX0_digestOn_103 (i := 3) rfl rfl rfl ?_
      refine G_lmul h dX0_digestOn_104 rfl ?_
      refine G_aload_n h dX0_digestOn_105 (i := 0) rfl rfl rfl ?_
      refine gf_X0_25 h hE dX0_digestOn_106 h_v0 rfl ?_
      refine gf_X0_88 h hE dX0_digestOn_109 ((w_0_3 hE h_v0).2) rfl ?_
      refine G_iload h dX0_digestOn_112 rfl rfl ?_
      refine G_iald h dX0_digestOn_114 ((w_4_2 hE ((w_0_3 hE h_v0).2)).2) g3 (jx := (ix v5)) rfl rfl ?_
      refine G_i2l h dX0_digestOn_115 rfl ?_
      refine G_ladd h dX0_digestOn_116 rfl ?_
      refine G_nml (fun x6 hx6 => ?_)
      have hf := nm_eq hx6 hf
      refine G_lstore_n h dX0_digestOn_117 (i := 3) rfl (by decide) (L' := [some (.ref v0), none, none, some (.long x6), none, some (.int v5)]) rfl rfl ?_
      refine G_ldc2 h q914 dX0_digestOn_118 rfl ?_
      refine G_lload_n h dX0_digestOn_121 (i := 3) rfl rfl rfl ?_
      refine G_lmul h dX0_digestOn_122 rfl ?_
      refine G_aload_n h dX0_digestOn_123 (i := 0) rfl rfl rfl ?_
      refine gf_X0_25 h hE dX0_digestOn_124 h_v0 rfl ?_
      refine gf_X0_134 h hE dX0_digestOn_127 ((w_0_3 hE h_v0).2) rfl ?_
      refine G_iload h dX0_digestOn_130 rfl rfl ?_
      refine G_iald h dX0_digestOn_132 ((w_4_1 hE ((w_0_3 hE h_v0).2)).2) g3 (jx := (ix v5)) rfl rfl ?_
      refine G_i2l h dX0_digestOn_133 rfl ?_
      refine G_ladd h dX0_digestOn_134 rfl ?_
      refine G_nml (fun x7 hx7 => ?_)
      have hf := nm_eq hx7 hf
      refine G_lstore_n h dX0_digestOn_135 (i := 3) rfl (by decide) (L' := [some (.ref v0), none, none, some (.long x7), none, some (.int v5)]) rfl rfl ?_
      refine G_iinc2 h dX0_digestOn_136 rfl ki_1 (by decide) (L' := [some (.ref v0), none, none, some (.long x7), none, some (.int (v5 + 1))]) rfl rfl ?_
      refine G_goto h dX0_digestOn_139 (tgt := 54) (by decide) ?_
      exact hk54 _ _ _ h_v0 hf
def f_X0_digestOn_L54 (E : Env1) (M : Mem) : Nat → Nat → Int64 → Int32 → (Option (Int64))
  | 0 => fun _ _ _ => none
  | n + 1 => b_X0_digestOn_L54 E M (f_X0_digestOn_L54 E M n)
theorem o_X0_digestOn_L54 {X : Ctx} {l0 : Launch} {E : Env1} (h : Cx X l0 E RX0 cX0_digestOn (some .long) 6 rm_X0_digestOn) (hE : WF E) {M : Mem} {r : Int64} (hR : RetL X E cX0_digestOn r M) : ∀ (n : Nat) (v0 : Nat) (v3 : Int64) (v5 : Int32), isK E v0 0 → f_X0_digestOn_L54 E M n v0 v3 v5 = some r → G X E (0, 0) 54 [some (.ref v0), none, none, some (.long v3), none, some (.int v5)] [] M := by
  intro n
  induction n with
  | zero =>
    intro _ _ _ a0 hf
    have h0 : (none : Option (Int64)) = some r := hf
    cases h0
  | succ n ih =>
    intro _ _ _ a0 hf
    exact ob_X0_digestOn_L54 h hE hR  ih a0 hf
def b_X0_digestOn_L5 (E : Env1) (M : Mem) (k5 : Nat → Int64 → Int32 → (Option (Int64))) (v0 : Nat) (v3 : Int64) (v5 : Int32) : Option (Int64) :=
  if (8 : Int32) ≤ v5 then (
    nm (((31 : Int64) * v3) + ((mi M (rr E v0 3) 3).toInt64)) fun x2 =>
    f_X0_digestOn_L54 E M FU v0 x2 (0 : Int32))
  else (
    gd v5 8 (nm (((31 : Int64) * v3) + ((mi M (rr E (rr E v0 3) 0) (ix v5)).toInt64)) fun x4 =>
    k5 v0 x4 (v5 + 1)))
set_option maxRecDepth 100000 in
set_option maxHeartbeats 4000000 in
theorem ob_X0_digestOn_L5 {X : Ctx} {l0 : Launch} {E : Env1} (h : Cx X l0 E RX0 cX0_digestOn (some .long) 6 rm_X0_digestOn) (hE : WF E) {M : Mem} {r : Int64} (hR : RetL X E cX0_digestOn r M) {k5 : Nat → Int64 → Int32 → (Option (Int64))} (hk5 : ∀ (v0 : Nat) (v3 : Int64) (v5 : Int32), isK E v0 0 → k5 v0 v3 v5 = some r → G X E (0, 0) 5 [some (.ref v0), none, none, some (.long v3), none, some (.int v5)] [] M) {v0 : Nat} {v3 : Int64} {v5 : Int32} (h_v0 : isK E v0 0) (hf : b_X0_digestOn_L5 E M k5 v0 v3 v5 = some r) : G X E (0, 0) 5 [some (.ref v0), none, none, some (.long v3), none, some (.int v5)] [] M := by
  unfold b_X0_digestOn_L5 at hf
  refine G_iload h dX0_digestOn_5 rfl rfl ?_
  refine G_bipush h dX0_digestOn_7 kb_8 rfl ?_
  refine G_icmp_ge h dX0_digestOn_9 (tgt := 36) (by decide) rfl (fun c1 => ?_) (fun c1 => ?_)
  · have hf := it_t c1 hf
    refine G_ldc2 h q914 dX0_digestOn_36 rfl ?_
    refine G_lload_n h dX0_digestOn_39 (i := 3) rfl rfl rfl ?_
    refine G_lmul h dX0_digestOn_40 rfl ?_
    refine G_aload_n h dX0_digestOn_41 (i := 0) rfl rfl rfl ?_
    refine gf_X0_25 h hE dX0_digestOn_42 h_v0 rfl ?_
    refine gf_X0_149 h dX0_digestOn_45 ((w_0_3 hE h_v0).2) rfl ?_
    refine G_i2l h dX0_digestOn_48 rfl ?_
    refine G_ladd h dX0_digestOn_49 rfl ?_
    refine G_nml (fun x2 hx2 => ?_)
    have hf := nm_eq hx2 hf
    refine G_lstore_n h dX0_digestOn_50 (i := 3) rfl (by decide) (L' := [some (.ref v0), none, none, some (.long x2), none, some (.int v5)]) rfl rfl ?_
    refine G_iconst h dX0_digestOn_51 ki_0 rfl ?_
    refine G_istore h dX0_digestOn_52  (by decide) (L' := [some (.ref v0), none, none, some (.long x2), none, some (.int (0 : Int32))]) rfl rfl ?_
    exact o_X0_digestOn_L54 h hE hR  FU _ _ _ h_v0 hf
  · have hf := it_f c1 hf
    refine G_ldc2 h q914 dX0_digestOn_12 rfl ?_
    refine G_lload_n h dX0_digestOn_15 (i := 3) rfl rfl rfl ?_
    refine G_lmul h dX0_digestOn_16 rfl ?_
    refine G_aload_n h dX0_digestOn_17 (i := 0) rfl rfl rfl ?_
    refine gf_X0_25 h hE dX0_digestOn_18 h_v0 rfl ?_
    refine gf_X0_95 h hE dX0_digestOn_21 ((w_0_3 hE h_v0).2) rfl ?_
    refine G_iload h dX0_digestOn_24 rfl rfl ?_
    obtain ⟨g3, hf⟩ := gd_some hf
    refine G_iald h dX0_digestOn_26 ((w_4_0 hE ((w_0_3 hE h_v0).2)).2) g3 (jx := (ix v5)) rfl rfl ?_
    refine G_i2l h dX0_digestOn_27 rfl ?_
    refine G_ladd h dX0_digestOn_28 rfl ?_
    refine G_nml (fun x4 hx4 => ?_)
    have hf := nm_eq hx4 hf
    refine G_lstore_n h dX0_digestOn_29 (i := 3) rfl (by decide) (L' := [some (.ref v0), none, none, some (.long x4), none, some (.int v5)]) rfl rfl ?_
    refine G_iinc2 h dX0_digestOn_30 rfl ki_1 (by decide) (L' := [some (.ref v0), none, none, some (.long x4), none, some (.int (v5 + 1))]) rfl rfl ?_
    refine G_goto h dX0_digestOn_33 (tgt := 5) (by decide) ?_
    exact hk5 _ _ _ h_v0 hf
def f_X0_digestOn_L5 (E : Env1) (M : Mem) : Nat → Nat → Int64 → Int32 → (Option (Int64))
  | 0 => fun _ _ _ => none
  | n + 1 => b_X0_digestOn_L5 E M (f_X0_digestOn_L5 E M n)
theorem o_X0_digestOn_L5 {X : Ctx} {l0 : Launch} {E : Env1} (h : Cx X l0 E RX0 cX0_digestOn (some .long) 6 rm_X0_digestOn) (hE : WF E) {M : Mem} {r : Int64} (hR : RetL X E cX0_digestOn r M) : ∀ (n : Nat) (v0 : Nat) (v3 : Int64) (v5 : Int32), isK E v0 0 → f_X0_digestOn_L5 E M n v0 v3 v5 = some r → G X E (0, 0) 5 [some (.ref v0), none, none, some (.long v3), none, some (.int v5)] [] M := by
  intro n
  induction n with
  | zero =>
    intro _ _ _ a0 hf
    have h0 : (none : Option (Int64)) = some r := hf
    cases h0
  | succ n ih =>
    intro _ _ _ a0 hf
    exact ob_X0_digestOn_L5 h hE hR  ih a0 hf
def f_X0_digestOn (E : Env1) (M : Mem) (v0 : Nat) (v1 : Int64) : Option (Int64) :=
  f_X0_digestOn_L5 E M FU v0 v1 (0 : Int32)
set_option maxRecDepth 100000 in
set_option maxHeartbeats 4000000 in
theorem ok_X0_digestOn {E : Env1} (hE : WF E) (l0 : Launch) {M : Mem} {v0 : Nat} {v1 : Int64} {r : Int64} (h0 : isK E v0 0) (hf : f_X0_digestOn E M v0 v1 = some r) : Met l0 yX0_digestOn (wsA yX0_digestOn cX0_digestOn 6 (some .long)) rm_X0_digestOn (CP E M [.ref v0, .long v1]) (CQl E r M) 0 0 (eA E) := by
  unfold f_X0_digestOn at hf
  refine mtL l0 (by decide +kernel) (Nat.le_of_ble_eq_true rfl) (L0 := [some (.ref v0), some (.long v1), none, none, none, none]) rfl (fun X h hR => ?_)
  refine G_lload_n h dX0_digestOn_0 (i := 1) rfl rfl rfl ?_
  refine G_lstore_n h dX0_digestOn_1 (i := 3) rfl (by decide) (L' := [some (.ref v0), some (.long v1), none, some (.long v1), none, none]) rfl rfl ?_
  refine G_iconst h dX0_digestOn_2 ki_0 rfl ?_
  refine G_istore h dX0_digestOn_3  (by decide) (L' := [some (.ref v0), some (.long v1), none, some (.long v1), none, some (.int (0 : Int32))]) rfl rfl ?_
  refine G_mskL [true, false, false, true, false, true] (L' := [some (.ref v0), none, none, some (.long v1), none, some (.int (0 : Int32))]) rfl ?_
  exact o_X0_digestOn_L5 h hE hR  FU _ _ _ h0 hf
def rm_X0_dropOldest : Room := { frames := 0, cells := 0, slots := 0, locals := 0 }
def b_X0_dropOldest_L9 (E : Env1) (k9 : Mem → Nat → Nat → Int32 → (Option (Mem))) (M : Mem) (v0 : Nat) (v1 : Nat) (v2 : Int32) : Option (Mem) :=
  if (8 : Int32) ≤ v2 then (some (wi (wr M (rr E v0 4) 7 v1) v0 5 (7 : Int32)))
  else (gd v2 8 (gd (v2 - (1 : Int32)) 8 (k9 (wr M (rr E v0 4) (ix (v2 - (1 : Int32))) (mr M (rr E v0 4) (ix v2))) v0 v1 (v2 + 1))))
set_option maxRecDepth 100000 in
set_option maxHeartbeats 4000000 in
theorem ob_X0_dropOldest_L9 {X : Ctx} {l0 : Launch} {E : Env1} (h : Cx X l0 E RX0 cX0_dropOldest none 3 rm_X0_dropOldest) (hE : WF E) {M' : Mem} (hR : RetV X E cX0_dropOldest M') {k9 : Mem → Nat → Nat → Int32 → (Option (Mem))} (hk9 : ∀ (M : Mem) (v0 : Nat) (v1 : Nat) (v2 : Int32), isK E v0 0 → isK E v1 4 → k9 M v0 v1 v2 = some (M') → G X E (0, 0) 9 [some (.ref v0), some (.ref v1), some (.int v2)] [] M) {M : Mem} {v0 : Nat} {v1 : Nat} {v2 : Int32} (h_v0 : isK E v0 0) (h_v1 : isK E v1 4) (hf : b_X0_dropOldest_L9 E k9 M v0 v1 v2 = some (M')) : G X E (0, 0) 9 [some (.ref v0), some (.ref v1), some (.int v2)] [] M := by
  unfold b_X0_dropOldest_L9 at hf
  refine G_iload_n h dX0_dropOldest_9 (i := 2) rfl rfl rfl ?_
  refine G_bipush h dX0_dropOldest_10 kb_8 rfl ?_
  refine G_icmp_ge h dX0_dropOldest_12 (tgt := 35) (by decide) rfl (fun c1 => ?_) (fun c1 => ?_)
  · have hf := it_t c1 hf
    refine G_aload_n h dX0_dropOldest_35 (i := 0) rfl rfl rfl ?_
    refine gf_X0_29 h hE dX0_dropOldest_36 h_v0 rfl ?_
    refine G_bipush h dX0_dropOldest_39 kb_7 rfl ?_
    refine G_aload_n h dX0_dropOldest_41 (i := 1) rfl rfl rfl ?_
    refine G_astS h hE dX0_dropOldest_42 ((w_0_4 hE h_v0).2) h_v1 (vi_lit (by decide)) (jx := 7) (by decide) rfl ?_
    refine G_aload_n h dX0_dropOldest_43 (i := 0) rfl rfl rfl ?_
    refine G_bipush h dX0_dropOldest_44 kb_7 rfl ?_
    refine pf_X0_33 h dX0_dropOldest_46 h_v0 rfl ?_
    exact pwV hR dX0_dropOldest_49 hf
  · have hf := it_f c1 hf
    refine G_aload_n h dX0_dropOldest_15 (i := 0) rfl rfl rfl ?_
    refine gf_X0_29 h hE dX0_dropOldest_16 h_v0 rfl ?_
    refine G_iload_n h dX0_dropOldest_19 (i := 2) rfl rfl rfl ?_
    refine G_iconst h dX0_dropOldest_20 ki_1 rfl ?_
    refine G_isub h dX0_dropOldest_21 rfl ?_
    refine G_aload_n h dX0_dropOldest_22 (i := 0) rfl rfl rfl ?_
    refine gf_X0_29 h hE dX0_dropOldest_23 h_v0 rfl ?_
    refine G_iload_n h dX0_dropOldest_26 (i := 2) rfl rfl rfl ?_
    obtain ⟨g2, hf⟩ := gd_some hf
    refine G_aldS h hE dX0_dropOldest_27 ((w_0_4 hE h_v0).2) g2 (jx := (ix v2)) rfl rfl (fun hs3 => ?_)
    obtain ⟨g4, hf⟩ := gd_some hf
    refine G_astS h hE dX0_dropOldest_28 ((w_0_4 hE h_v0).2) hs3 g4 (jx := (ix (v2 - (1 : Int32)))) rfl rfl ?_
    refine G_iinc2 h dX0_dropOldest_29 rfl ki_1 (by decide) (L' := [some (.ref v0), some (.ref v1), some (.int (v2 + 1))]) rfl rfl ?_
    refine G_goto h dX0_dropOldest_32 (tgt := 9) (by decide) ?_
    exact hk9 _ _ _ _ h_v0 h_v1 hf
def f_X0_dropOldest_L9 (E : Env1) : Nat → Mem → Nat → Nat → Int32 → (Option (Mem))
  | 0 => fun _ _ _ _ => none
  | n + 1 => b_X0_dropOldest_L9 E (f_X0_dropOldest_L9 E n)
theorem o_X0_dropOldest_L9 {X : Ctx} {l0 : Launch} {E : Env1} (h : Cx X l0 E RX0 cX0_dropOldest none 3 rm_X0_dropOldest) (hE : WF E) {M' : Mem} (hR : RetV X E cX0_dropOldest M') : ∀ (n : Nat) (M : Mem) (v0 : Nat) (v1 : Nat) (v2 : Int32), isK E v0 0 → isK E v1 4 → f_X0_dropOldest_L9 E n M v0 v1 v2 = some (M') → G X E (0, 0) 9 [some (.ref v0), some (.ref v1), some (.int v2)] [] M := by
  intro n
  induction n with
  | zero =>
    intro _ _ _ _ a0 a1 hf
    have h0 : (none : Option (Mem)) = some (M') := hf
    cases h0
  | succ n ih =>
    intro _ _ _ _ a0 a1 hf
    exact ob_X0_dropOldest_L9 h hE hR  ih a0 a1 hf
def f_X0_dropOldest (E : Env1) (M : Mem) (v0 : Nat) : Option (Mem) :=
  f_X0_dropOldest_L9 E FU M v0 (mr M (rr E v0 4) 0) (1 : Int32)
set_option maxRecDepth 100000 in
set_option maxHeartbeats 4000000 in
theorem ok_X0_dropOldest {E : Env1} (hE : WF E) (l0 : Launch) {M : Mem} {M' : Mem} {v0 : Nat} (h0 : isK E v0 0) (hf : f_X0_dropOldest E M v0 = some (M')) : Met l0 yX0_dropOldest (wsA yX0_dropOldest cX0_dropOldest 3 none) rm_X0_dropOldest (CP E M [.ref v0]) (CQv E M') 0 0 (eA E) := by
  unfold f_X0_dropOldest at hf
  refine mtV l0 (by decide +kernel) (Nat.le_of_ble_eq_true rfl) (L0 := [some (.ref v0), none, none]) rfl (fun X h hR => ?_)
  refine G_aload_n h dX0_dropOldest_0 (i := 0) rfl rfl rfl ?_
  refine gf_X0_29 h hE dX0_dropOldest_1 h0 rfl ?_
  refine G_iconst h dX0_dropOldest_4 ki_0 rfl ?_
  refine G_aldS h hE dX0_dropOldest_5 ((w_0_4 hE h0).2) (vi_lit (by decide)) (jx := 0) (by decide) rfl (fun hs1 => ?_)
  refine G_astore_n h dX0_dropOldest_6 (i := 1) rfl (by decide) (L' := [some (.ref v0), some (.ref (mr M (rr E v0 4) 0)), none]) rfl rfl ?_
  refine G_iconst h dX0_dropOldest_7 ki_1 rfl ?_
  refine G_istore_n h dX0_dropOldest_8 (i := 2) rfl (by decide) (L' := [some (.ref v0), some (.ref (mr M (rr E v0 4) 0)), some (.int (1 : Int32))]) rfl rfl ?_
  exact o_X0_dropOldest_L9 h hE hR  FU _ _ _ _ h0 hs1 hf
def rm_X0_empty : Room := { frames := 1, cells := 0, slots := 0, locals := 21 }
def f_X0_empty (E : Env1) (M : Mem) (v0 : Nat) : Option (Mem) :=
  (f_X5_reset E (wi M v0 0 (0 : Int32)) (rr E v0 3)).bind fun x1 =>
  nm (f_X4_drop E (wi x1 v0 5 (0 : Int32)) (rr E v0 6)) fun x2 =>
  nm (f_X4_drop E x2.2 (rr E v0 7)) fun x3 =>
  nm (f_X4_drop E x3.2 (rr E v0 8)) fun x4 =>
  some x4.2
set_option maxRecDepth 100000 in
set_option maxHeartbeats 4000000 in
theorem ok_X0_empty {E : Env1} (hE : WF E) (l0 : Launch) {M : Mem} {M' : Mem} {v0 : Nat} (h0 : isK E v0 0) (hf : f_X0_empty E M v0 = some (M')) : Met l0 yX0_empty (wsA yX0_empty cX0_empty 1 none) rm_X0_empty (CP E M [.ref v0]) (CQv E M') 0 0 (eA E) := by
  unfold f_X0_empty at hf
  refine mtV l0 (by decide +kernel) (Nat.le_of_ble_eq_true rfl) (L0 := [some (.ref v0)]) rfl (fun X h hR => ?_)
  refine G_aload_n h dX0_empty_0 (i := 0) rfl rfl rfl ?_
  refine G_iconst h dX0_empty_1 ki_0 rfl ?_
  refine pf_X0_9 h dX0_empty_2 h0 rfl ?_
  refine G_aload_n h dX0_empty_5 (i := 0) rfl rfl rfl ?_
  refine gf_X0_25 h hE dX0_empty_6 h0 rfl ?_
  obtain ⟨x1, hx1, hf⟩ := bd hf
  refine cl_X0_63 h (ok_X5_reset hE _ ((w_0_3 hE h0).2) hx1) dX0_empty_9 ((w_0_3 hE h0).2) (as := []) rfl rfl ⟨rfl, rfl, Nat.le_of_ble_eq_true rfl, Nat.le_of_ble_eq_true rfl⟩ rfl (Nat.le_of_ble_eq_true rfl) ?_
  refine G_aload_n h dX0_empty_12 (i := 0) rfl rfl rfl ?_
  refine G_iconst h dX0_empty_13 ki_0 rfl ?_
  refine pf_X0_33 h dX0_empty_14 h0 rfl ?_
  refine G_aload_n h dX0_empty_17 (i := 0) rfl rfl rfl ?_
  refine gf_X0_39 h hE dX0_empty_18 h0 rfl ?_
  obtain ⟨x2, hx2⟩ : ∃ x, x = f_X4_drop E (wi x1 v0 5 (0 : Int32)) (rr E v0 6) := ⟨_, rfl⟩
  have hf := nm_eq hx2 hf
  refine cl_X0_66 h (ok_X4_drop hE _ ((w_0_6 hE h0).2) hx2.symm) dX0_empty_21 ((w_0_6 hE h0).2) (as := []) rfl rfl ⟨rfl, rfl, Nat.le_of_ble_eq_true rfl, Nat.le_of_ble_eq_true rfl⟩ rfl (Nat.le_of_ble_eq_true rfl) ?_
  refine G_pop h dX0_empty_24 rfl rfl ?_
  refine G_aload_n h dX0_empty_25 (i := 0) rfl rfl rfl ?_
  refine gf_X0_43 h hE dX0_empty_26 h0 rfl ?_
  obtain ⟨x3, hx3⟩ : ∃ x, x = f_X4_drop E x2.2 (rr E v0 7) := ⟨_, rfl⟩
  have hf := nm_eq hx3 hf
  refine cl_X0_66 h (ok_X4_drop hE _ ((w_0_7 hE h0).2) hx3.symm) dX0_empty_29 ((w_0_7 hE h0).2) (as := []) rfl rfl ⟨rfl, rfl, Nat.le_of_ble_eq_true rfl, Nat.le_of_ble_eq_true rfl⟩ rfl (Nat.le_of_ble_eq_true rfl) ?_
  refine G_pop h dX0_empty_32 rfl rfl ?_
  refine G_aload_n h dX0_empty_33 (i := 0) rfl rfl rfl ?_
  refine gf_X0_46 h hE dX0_empty_34 h0 rfl ?_
  obtain ⟨x4, hx4⟩ : ∃ x, x = f_X4_drop E x3.2 (rr E v0 8) := ⟨_, rfl⟩
  have hf := nm_eq hx4 hf
  refine cl_X0_66 h (ok_X4_drop hE _ ((w_0_8 hE h0).2) hx4.symm) dX0_empty_37 ((w_0_8 hE h0).2) (as := []) rfl rfl ⟨rfl, rfl, Nat.le_of_ble_eq_true rfl, Nat.le_of_ble_eq_true rfl⟩ rfl (Nat.le_of_ble_eq_true rfl) ?_
  refine G_pop h dX0_empty_40 rfl rfl ?_
  exact pwV hR dX0_empty_41 hf
def rm_X0_fitsSights : Room := { frames := 2, cells := 0, slots := 0, locals := 45 }
def b_X0_fitsSights_L2 (E : Env1) (M : Mem) (k2 : Nat → Int32 → Int32 → Int32 → (Option (Int32))) (v0 : Nat) (v1 : Int32) (v2 : Int32) (v3 : Int32) : Option (Int32) :=
  if (mi M (rr E v0 6) 0) ≤ v3 then (some (1 : Int32))
  else (
    (f_X4_cell E M (rr E v0 6) v3 (0 : Int32)).bind fun x2 =>
    if x2 = v1 then (
      (f_X4_cell E M (rr E v0 6) v3 (1 : Int32)).bind fun x4 =>
      (f_X4_cell E M (rr E v0 6) v3 (2 : Int32)).bind fun x5 =>
      nm (if x5 = (1 : Int32) then ((1 : Int32) <<< (x4 &&& 31)) - (1 : Int32) else ((2 : Int32) * ((1 : Int32) <<< (x4 &&& 31))) - (1 : Int32)) fun x7 =>
      if (v2 &&& (((2 : Int32) * ((1 : Int32) <<< (x4 &&& 31))) - (1 : Int32))) = x7 then (k2 v0 v1 v2 (v3 + 1))
      else (some (0 : Int32)))
    else (k2 v0 v1 v2 (v3 + 1)))
set_option maxRecDepth 100000 in
set_option maxHeartbeats 4000000 in
theorem ob_X0_fitsSights_L2 {X : Ctx} {l0 : Launch} {E : Env1} (h : Cx X l0 E RX0 cX0_fitsSights (some .boolean) 6 rm_X0_fitsSights) (hE : WF E) {M : Mem} {r : Int32} (hR : RetZ X E cX0_fitsSights r M) {k2 : Nat → Int32 → Int32 → Int32 → (Option (Int32))} (hk2 : ∀ (v0 : Nat) (v1 : Int32) (v2 : Int32) (v3 : Int32), isK E v0 0 → k2 v0 v1 v2 v3 = some r → G X E (0, 0) 2 [some (.ref v0), some (.int v1), some (.int v2), some (.int v3), none, none] [] M) {v0 : Nat} {v1 : Int32} {v2 : Int32} {v3 : Int32} (h_v0 : isK E v0 0) (hf : b_X0_fitsSights_L2 E M k2 v0 v1 v2 v3 = some r) : G X E (0, 0) 2 [some (.ref v0), some (.int v1), some (.int v2), some (.int v3), none, none] [] M := by
  unfold b_X0_fitsSights_L2 at hf
  refine G_iload_n h dX0_fitsSights_2 (i := 3) rfl rfl rfl ?_
  refine G_aload_n h dX0_fitsSights_3 (i := 0) rfl rfl rfl ?_
  refine gf_X0_39 h hE dX0_fitsSights_4 h_v0 rfl ?_
  refine gf_X0_137 h dX0_fitsSights_7 ((w_0_6 hE h_v0).2) rfl ?_
  refine G_icmp_ge h dX0_fitsSights_10 (tgt := 88) (by decide) rfl (fun c1 => ?_) (fun c1 => ?_)
  · have hf := it_t c1 hf
    refine G_iconst h dX0_fitsSights_88 ki_1 rfl ?_
    exact roZ hR dX0_fitsSights_89 (Or.inr rfl) hf
  · have hf := it_f c1 hf
    refine G_aload_n h dX0_fitsSights_13 (i := 0) rfl rfl rfl ?_
    refine gf_X0_39 h hE dX0_fitsSights_14 h_v0 rfl ?_
    refine G_iload_n h dX0_fitsSights_17 (i := 3) rfl rfl rfl ?_
    refine G_iconst h dX0_fitsSights_18 ki_0 rfl ?_
    obtain ⟨x2, hx2, hf⟩ := bd hf
    refine cl_X0_140 h (ok_X4_cell hE _ ((w_0_6 hE h_v0).2) hx2) dX0_fitsSights_19 ((w_0_6 hE h_v0).2) (as := [.int v3, .int (0 : Int32)]) rfl rfl ⟨rfl, rfl, Nat.le_of_ble_eq_true rfl, Nat.le_of_ble_eq_true rfl⟩ rfl (Nat.le_of_ble_eq_true rfl) ?_
    refine G_iload_n h dX0_fitsSights_22 (i := 1) rfl rfl rfl ?_
    refine G_icmp_ne h dX0_fitsSights_23 (tgt := 82) (by decide) rfl (fun c3 => ?_) (fun c3 => ?_)
    · have hf := it_f c3 hf
      refine G_iinc2 h dX0_fitsSights_82 rfl ki_1 (by decide) (L' := [some (.ref v0), some (.int v1), some (.int v2), some (.int (v3 + 1)), none, none]) rfl rfl ?_
      refine G_goto h dX0_fitsSights_85 (tgt := 2) (by decide) ?_
      exact hk2 _ _ _ _ h_v0 hf
    · have hf := it_t c3 hf
      refine G_iconst h dX0_fitsSights_26 ki_1 rfl ?_
      refine G_aload_n h dX0_fitsSights_27 (i := 0) rfl rfl rfl ?_
      refine gf_X0_39 h hE dX0_fitsSights_28 h_v0 rfl ?_
      refine G_iload_n h dX0_fitsSights_31 (i := 3) rfl rfl rfl ?_
      refine G_iconst h dX0_fitsSights_32 ki_1 rfl ?_
      obtain ⟨x4, hx4, hf⟩ := bd hf
      refine cl_X0_140 h (ok_X4_cell hE _ ((w_0_6 hE h_v0).2) hx4) dX0_fitsSights_33 ((w_0_6 hE h_v0).2) (as := [.int v3, .int (1 : Int32)]) rfl rfl ⟨rfl, rfl, Nat.le_of_ble_eq_true rfl, Nat.le_of_ble_eq_true rfl⟩ rfl (Nat.le_of_ble_eq_true rfl) ?_
      refine G_ishl h dX0_fitsSights_36 rfl ?_
      refine G_istore h dX0_fitsSights_37  (by decide) (L' := [some (.ref v0), some (.int v1), some (.int v2), some (.int v3), some (.int ((1 : Int32) <<< (x4 &&& 31))), none]) rfl rfl ?_
      refine G_aload_n h dX0_fitsSights_39 (i := 0) rfl rfl rfl ?_
      refine gf_X0_39 h hE dX0_fitsSights_40 h_v0 rfl ?_
      refine G_iload_n h dX0_fitsSights_43 (i := 3) rfl rfl rfl ?_
      refine G_iconst h dX0_fitsSights_44 ki_2 rfl ?_
      obtain ⟨x5, hx5, hf⟩ := bd hf
      refine cl_X0_140 h (ok_X4_cell hE _ ((w_0_6 hE h_v0).2) hx5) dX0_fitsSights_45 ((w_0_6 hE h_v0).2) (as := [.int v3, .int (2 : Int32)]) rfl rfl ⟨rfl, rfl, Nat.le_of_ble_eq_true rfl, Nat.le_of_ble_eq_true rfl⟩ rfl (Nat.le_of_ble_eq_true rfl) ?_
      refine G_iconst h dX0_fitsSights_48 ki_1 rfl ?_
      have hJ : G X E (0, 0) 65 [some (.ref v0), some (.int v1), some (.int v2), some (.int v3), some (.int ((1 : Int32) <<< (x4 &&& 31))), none] [.int (if x5 = (1 : Int32) then ((1 : Int32) <<< (x4 &&& 31)) - (1 : Int32) else ((2 : Int32) * ((1 : Int32) <<< (x4 &&& 31))) - (1 : Int32))] M := by
        refine G_nmi (fun x7 hx7 => ?_)
        have hf := nm_eq hx7 hf
        refine G_istore h dX0_fitsSights_65  (by decide) (L' := [some (.ref v0), some (.int v1), some (.int v2), some (.int v3), some (.int ((1 : Int32) <<< (x4 &&& 31))), some (.int x7)]) rfl rfl ?_
        refine G_iload_n h dX0_fitsSights_67 (i := 2) rfl rfl rfl ?_
        refine G_iconst h dX0_fitsSights_68 ki_2 rfl ?_
        refine G_iload h dX0_fitsSights_69 rfl rfl ?_
        refine G_imul h dX0_fitsSights_71 rfl ?_
        refine G_iconst h dX0_fitsSights_72 ki_1 rfl ?_
        refine G_isub h dX0_fitsSights_73 rfl ?_
        refine G_iand h dX0_fitsSights_74 rfl ?_
        refine G_iload h dX0_fitsSights_75 rfl rfl ?_
        refine G_icmp_eq h dX0_fitsSights_77 (tgt := 82) (by decide) rfl (fun c8 => ?_) (fun c8 => ?_)
        · have hf := it_t c8 hf
          refine G_iinc2 h dX0_fitsSights_82 rfl ki_1 (by decide) (L' := [some (.ref v0), some (.int v1), some (.int v2), some (.int (v3 + 1)), some (.int ((1 : Int32) <<< (x4 &&& 31))), some (.int x7)]) rfl rfl ?_
          refine G_goto h dX0_fitsSights_85 (tgt := 2) (by decide) ?_
          refine G_mskL [true, true, true, true, false, false] (L' := [some (.ref v0), some (.int v1), some (.int v2), some (.int (v3 + 1)), none, none]) rfl ?_
          exact hk2 _ _ _ _ h_v0 hf
        · have hf := it_f c8 hf
          refine G_iconst h dX0_fitsSights_80 ki_0 rfl ?_
          exact roZ hR dX0_fitsSights_81 (Or.inl rfl) hf
      refine G_icmp_ne h dX0_fitsSights_49 (tgt := 59) (by decide) rfl (fun c6 => ?_) (fun c6 => ?_)
      · refine G_iconst h dX0_fitsSights_59 ki_2 rfl ?_
        refine G_iload h dX0_fitsSights_60 rfl rfl ?_
        refine G_imul h dX0_fitsSights_62 rfl ?_
        refine G_iconst h dX0_fitsSights_63 ki_1 rfl ?_
        refine G_isub h dX0_fitsSights_64 rfl ?_
        exact G_ifn c6 hJ
      · refine G_iload h dX0_fitsSights_52 rfl rfl ?_
        refine G_iconst h dX0_fitsSights_54 ki_1 rfl ?_
        refine G_isub h dX0_fitsSights_55 rfl ?_
        refine G_goto h dX0_fitsSights_56 (tgt := 65) (by decide) ?_
        exact G_ifp c6 hJ
def f_X0_fitsSights_L2 (E : Env1) (M : Mem) : Nat → Nat → Int32 → Int32 → Int32 → (Option (Int32))
  | 0 => fun _ _ _ _ => none
  | n + 1 => b_X0_fitsSights_L2 E M (f_X0_fitsSights_L2 E M n)
theorem o_X0_fitsSights_L2 {X : Ctx} {l0 : Launch} {E : Env1} (h : Cx X l0 E RX0 cX0_fitsSights (some .boolean) 6 rm_X0_fitsSights) (hE : WF E) {M : Mem} {r : Int32} (hR : RetZ X E cX0_fitsSights r M) : ∀ (n : Nat) (v0 : Nat) (v1 : Int32) (v2 : Int32) (v3 : Int32), isK E v0 0 → f_X0_fitsSights_L2 E M n v0 v1 v2 v3 = some r → G X E (0, 0) 2 [some (.ref v0), some (.int v1), some (.int v2), some (.int v3), none, none] [] M := by
  intro n
  induction n with
  | zero =>
    intro _ _ _ _ a0 hf
    have h0 : (none : Option (Int32)) = some r := hf
    cases h0
  | succ n ih =>
    intro _ _ _ _ a0 hf
    exact ob_X0_fitsSights_L2 h hE hR  ih a0 hf
def f_X0_fitsSights (E : Env1) (M : Mem) (v0 : Nat) (v1 : Int32) (v2 : Int32) : Option (Int32) :=
  f_X0_fitsSights_L2 E M FU v0 v1 v2 (0 : Int32)
set_option maxRecDepth 100000 in
set_option maxHeartbeats 4000000 in
theorem ok_X0_fitsSights {E : Env1} (hE : WF E) (l0 : Launch) {M : Mem} {v0 : Nat} {v1 : Int32} {v2 : Int32} {r : Int32} (h0 : isK E v0 0) (hf : f_X0_fitsSights E M v0 v1 v2 = some r) : Met l0 yX0_fitsSights (wsA yX0_fitsSights cX0_fitsSights 6 (some .boolean)) rm_X0_fitsSights (CP E M [.ref v0, .int v1, .int v2]) (CQz E r M) 0 0 (eA E) := by
  unfold f_X0_fitsSights at hf
  refine mtZ l0 (by decide +kernel) (Nat.le_of_ble_eq_true rfl) (L0 := [some (.ref v0), some (.int v1), some (.int v2), none, none, none]) rfl (fun X h hR => ?_)
  refine G_iconst h dX0_fitsSights_0 ki_0 rfl ?_
  refine G_istore_n h dX0_fitsSights_1 (i := 3) rfl (by decide) (L' := [some (.ref v0), some (.int v1), some (.int v2), some (.int (0 : Int32)), none, none]) rfl rfl ?_
  exact o_X0_fitsSights_L2 h hE hR  FU _ _ _ _ h0 hf
def rm_X0_goBack : Room := { frames := 1, cells := 0, slots := 0, locals := 22 }
def f_X0_goBack (E : Env1) (M : Mem) (v0 : Nat) : Option (Mem) :=
  if (f_X8_within E M (mi M v0 5) (1 : Int32) (8 : Int32)) = 0 then (some M)
  else (
    gd (mi (wi M v0 5 ((mi M v0 5) - (1 : Int32))) v0 5) 8 ((f_X5_copyFrom E (wi M v0 5 ((mi M v0 5) - (1 : Int32))) (rr E v0 3) (mr (wi M v0 5 ((mi M v0 5) - (1 : Int32))) (rr E v0 4) (ix (mi (wi M v0 5 ((mi M v0 5) - (1 : Int32))) v0 5)))).bind fun x5 =>
    some x5))
set_option maxRecDepth 100000 in
set_option maxHeartbeats 4000000 in
theorem ok_X0_goBack {E : Env1} (hE : WF E) (l0 : Launch) {M : Mem} {M' : Mem} {v0 : Nat} (h0 : isK E v0 0) (hf : f_X0_goBack E M v0 = some (M')) : Met l0 yX0_goBack (wsA yX0_goBack cX0_goBack 1 none) rm_X0_goBack (CP E M [.ref v0]) (CQv E M') 0 0 (eA E) := by
  unfold f_X0_goBack at hf
  refine mtV l0 (by decide +kernel) (Nat.le_of_ble_eq_true rfl) (L0 := [some (.ref v0)]) rfl (fun X h hR => ?_)
  refine G_aload_n h dX0_goBack_0 (i := 0) rfl rfl rfl ?_
  refine gf_X0_33 h dX0_goBack_1 h0 rfl ?_
  refine G_iconst h dX0_goBack_4 ki_1 rfl ?_
  refine G_bipush h dX0_goBack_5 kb_8 rfl ?_
  refine cl_X0_81 h (ok_X8_within hE _  (r := f_X8_within E M (mi M v0 5) (1 : Int32) (8 : Int32)) rfl) dX0_goBack_7 (as := [.int (mi M v0 5), .int (1 : Int32), .int (8 : Int32)]) rfl rfl ⟨rfl, rfl, Nat.le_of_ble_eq_true rfl, Nat.le_of_ble_eq_true rfl⟩ rfl (Nat.le_of_ble_eq_true rfl) (fun z1 => ?_)
  refine G_if_eq h dX0_goBack_10 (tgt := 39) (by decide) rfl (fun c2 => ?_) (fun c2 => ?_)
  · have hf := it_t c2 hf
    exact pwV hR dX0_goBack_39 hf
  · have hf := it_f c2 hf
    refine G_aload_n h dX0_goBack_13 (i := 0) rfl rfl rfl ?_
    refine G_dup h dX0_goBack_14 rfl rfl ?_
    refine gf_X0_33 h dX0_goBack_15 h0 rfl ?_
    refine G_iconst h dX0_goBack_18 ki_1 rfl ?_
    refine G_isub h dX0_goBack_19 rfl ?_
    refine pf_X0_33 h dX0_goBack_20 h0 rfl ?_
    refine G_aload_n h dX0_goBack_23 (i := 0) rfl rfl rfl ?_
    refine gf_X0_25 h hE dX0_goBack_24 h0 rfl ?_
    refine G_aload_n h dX0_goBack_27 (i := 0) rfl rfl rfl ?_
    refine gf_X0_29 h hE dX0_goBack_28 h0 rfl ?_
    refine G_aload_n h dX0_goBack_31 (i := 0) rfl rfl rfl ?_
    refine gf_X0_33 h dX0_goBack_32 h0 rfl ?_
    obtain ⟨g3, hf⟩ := gd_some hf
    refine G_aldS h hE dX0_goBack_35 ((w_0_4 hE h0).2) g3 (jx := (ix (mi (wi M v0 5 ((mi M v0 5) - (1 : Int32))) v0 5))) rfl rfl (fun hs4 => ?_)
    obtain ⟨x5, hx5, hf⟩ := bd hf
    refine cl_X0_70 h (ok_X5_copyFrom hE _ ((w_0_3 hE h0).2) hs4 hx5) dX0_goBack_36 ((w_0_3 hE h0).2) (as := [.ref (mr (wi M v0 5 ((mi M v0 5) - (1 : Int32))) (rr E v0 4) (ix (mi (wi M v0 5 ((mi M v0 5) - (1 : Int32))) v0 5)))]) rfl rfl ⟨rfl, rfl, Nat.le_of_ble_eq_true rfl, Nat.le_of_ble_eq_true rfl⟩ rfl (Nat.le_of_ble_eq_true rfl) ?_
    exact pwV hR dX0_goBack_39 hf
def rm_X0_hasPerson : Room := { frames := 1, cells := 0, slots := 0, locals := 22 }
def f_X0_hasPerson (E : Env1) (M : Mem) (v0 : Nat) (v1 : Int32) : Int32 :=
  if (f_X8_within E M v1 (0 : Int32) ((mi M v0 0) - (1 : Int32))) = 0 then (0 : Int32) else if (6 : Int32) ≤ v1 then (0 : Int32) else (1 : Int32)
set_option maxRecDepth 100000 in
set_option maxHeartbeats 4000000 in
theorem ok_X0_hasPerson {E : Env1} (hE : WF E) (l0 : Launch) {M : Mem} {v0 : Nat} {v1 : Int32} {r : Int32} (h0 : isK E v0 0) (hf : f_X0_hasPerson E M v0 v1 = r) : Met l0 yX0_hasPerson (wsA yX0_hasPerson cX0_hasPerson 2 (some .boolean)) rm_X0_hasPerson (CP E M [.ref v0, .int v1]) (CQz E r M) 0 0 (eA E) := by
  unfold f_X0_hasPerson at hf
  refine mtZ l0 (by decide +kernel) (Nat.le_of_ble_eq_true rfl) (L0 := [some (.ref v0), some (.int v1)]) rfl (fun X h hR => ?_)
  refine G_iload_n h dX0_hasPerson_0 (i := 1) rfl rfl rfl ?_
  refine G_iconst h dX0_hasPerson_1 ki_0 rfl ?_
  refine G_aload_n h dX0_hasPerson_2 (i := 0) rfl rfl rfl ?_
  refine gf_X0_9 h dX0_hasPerson_3 h0 rfl ?_
  refine G_iconst h dX0_hasPerson_6 ki_1 rfl ?_
  refine G_isub h dX0_hasPerson_7 rfl ?_
  refine cl_X0_81 h (ok_X8_within hE _  (r := f_X8_within E M v1 (0 : Int32) ((mi M v0 0) - (1 : Int32))) rfl) dX0_hasPerson_8 (as := [.int v1, .int (0 : Int32), .int ((mi M v0 0) - (1 : Int32))]) rfl rfl ⟨rfl, rfl, Nat.le_of_ble_eq_true rfl, Nat.le_of_ble_eq_true rfl⟩ rfl (Nat.le_of_ble_eq_true rfl) (fun z1 => ?_)
  have hJ : G X E (0, 0) 25 [some (.ref v0), some (.int v1)] [.int (if (f_X8_within E M v1 (0 : Int32) ((mi M v0 0) - (1 : Int32))) = 0 then (0 : Int32) else if (6 : Int32) ≤ v1 then (0 : Int32) else (1 : Int32))] M := by
    exact toZ hR dX0_hasPerson_25 (ite_01 (Or.inl rfl) (ite_01 (Or.inl rfl) (Or.inr rfl))) hf
  refine G_if_eq h dX0_hasPerson_11 (tgt := 24) (by decide) rfl (fun c2 => ?_) (fun c2 => ?_)
  · refine G_iconst h dX0_hasPerson_24 ki_0 rfl ?_
    exact G_ifp c2 hJ
  · refine G_iload_n h dX0_hasPerson_14 (i := 1) rfl rfl rfl ?_
    refine G_bipush h dX0_hasPerson_15 kb_6 rfl ?_
    refine G_icmp_ge h dX0_hasPerson_17 (tgt := 24) (by decide) rfl (fun c3 => ?_) (fun c3 => ?_)
    · refine G_iconst h dX0_hasPerson_24 ki_0 rfl ?_
      exact G_ifp c3 (G_ifn c2 hJ)
    · refine G_iconst h dX0_hasPerson_20 ki_1 rfl ?_
      refine G_goto h dX0_hasPerson_21 (tgt := 25) (by decide) ?_
      exact G_ifn c3 (G_ifn c2 hJ)
def rm_X0_hostGets : Room := { frames := 4, cells := 0, slots := 0, locals := 95 }
def f_X0_hostGets (E : Env1) (M : Mem) (v0 : Nat) (v1 : Int32) (v2 : Int32) (v3 : Int32) (v4 : Int32) (v5 : Int32) (v6 : Int32) : Option (Int32) :=
  nm (((v5 &&& (1 : Int32)) <<< (v1 &&& 31)) ||| (((v5 >>> ((1 : Int32) &&& 31)) &&& (1 : Int32)) <<< (v2 &&& 31))) fun x1 =>
  (f_X0_couldMeet E M v0 v3 v4 x1 (mi M (rr E v0 3) 4)).bind fun x3 =>
  nm (if x3 = 0 then (0 : Int32) else (4 : Int32)) fun x5 =>
  if ((v5 >>> (v6 &&& 31)) &&& (1 : Int32)) = (1 : Int32) then (
    (f_X0_worth E M v0 (if v6 = 0 then v1 else v2) (mi M (rr E v0 3) 4)).bind fun x8 =>
    some (x5 - ((1 : Int32) + x8)))
  else (some x5)
set_option maxRecDepth 100000 in
set_option maxHeartbeats 4000000 in
theorem ok_X0_hostGets {E : Env1} (hE : WF E) (l0 : Launch) {M : Mem} {v0 : Nat} {v1 : Int32} {v2 : Int32} {v3 : Int32} {v4 : Int32} {v5 : Int32} {v6 : Int32} {r : Int32} (h0 : isK E v0 0) (hf : f_X0_hostGets E M v0 v1 v2 v3 v4 v5 v6 = some r) : Met l0 yX0_hostGets (wsA yX0_hostGets cX0_hostGets 9 (some .int)) rm_X0_hostGets (CP E M [.ref v0, .int v1, .int v2, .int v3, .int v4, .int v5, .int v6]) (CQi E r M) 0 0 (eA E) := by
  unfold f_X0_hostGets at hf
  refine mtI l0 (by decide +kernel) (Nat.le_of_ble_eq_true rfl) (L0 := [some (.ref v0), some (.int v1), some (.int v2), some (.int v3), some (.int v4), some (.int v5), some (.int v6), none, none]) rfl (fun X h hR => ?_)
  refine G_iload h dX0_hostGets_0 rfl rfl ?_
  refine G_iconst h dX0_hostGets_2 ki_1 rfl ?_
  refine G_iand h dX0_hostGets_3 rfl ?_
  refine G_iload_n h dX0_hostGets_4 (i := 1) rfl rfl rfl ?_
  refine G_ishl h dX0_hostGets_5 rfl ?_
  refine G_iload h dX0_hostGets_6 rfl rfl ?_
  refine G_iconst h dX0_hostGets_8 ki_1 rfl ?_
  refine G_ishr h dX0_hostGets_9 rfl ?_
  refine G_iconst h dX0_hostGets_10 ki_1 rfl ?_
  refine G_iand h dX0_hostGets_11 rfl ?_
  refine G_iload_n h dX0_hostGets_12 (i := 2) rfl rfl rfl ?_
  refine G_ishl h dX0_hostGets_13 rfl ?_
  refine G_ior h dX0_hostGets_14 rfl ?_
  refine G_nmi (fun x1 hx1 => ?_)
  have hf := nm_eq hx1 hf
  refine G_istore h dX0_hostGets_15  (by decide) (L' := [some (.ref v0), some (.int v1), some (.int v2), some (.int v3), some (.int v4), some (.int v5), some (.int v6), some (.int x1), none]) rfl rfl ?_
  refine G_aload_n h dX0_hostGets_17 (i := 0) rfl rfl rfl ?_
  refine G_iload_n h dX0_hostGets_18 (i := 3) rfl rfl rfl ?_
  refine G_iload h dX0_hostGets_19 rfl rfl ?_
  refine G_iload h dX0_hostGets_21 rfl rfl ?_
  refine G_aload_n h dX0_hostGets_23 (i := 0) rfl rfl rfl ?_
  refine gf_X0_25 h hE dX0_hostGets_24 h0 rfl ?_
  refine gf_X0_120 h dX0_hostGets_27 ((w_0_3 hE h0).2) rfl ?_
  obtain ⟨x3, hx3, hf⟩ := bd hf
  refine cl_X0_123 h (ok_X0_couldMeet hE _ h0 hx3) dX0_hostGets_30 h0 (as := [.int v3, .int v4, .int x1, .int (mi M (rr E v0 3) 4)]) rfl rfl ⟨rfl, rfl, Nat.le_of_ble_eq_true rfl, Nat.le_of_ble_eq_true rfl⟩ rfl (Nat.le_of_ble_eq_true rfl) (fun z2 => ?_)
  have hJ : G X E (0, 0) 41 [some (.ref v0), some (.int v1), some (.int v2), some (.int v3), some (.int v4), some (.int v5), some (.int v6), some (.int x1), none] [.int (if x3 = 0 then (0 : Int32) else (4 : Int32))] M := by
    refine G_nmi (fun x5 hx5 => ?_)
    have hf := nm_eq hx5 hf
    refine G_istore h dX0_hostGets_41  (by decide) (L' := [some (.ref v0), some (.int v1), some (.int v2), some (.int v3), some (.int v4), some (.int v5), some (.int v6), some (.int x1), some (.int x5)]) rfl rfl ?_
    refine G_iload h dX0_hostGets_43 rfl rfl ?_
    refine G_iload h dX0_hostGets_45 rfl rfl ?_
    refine G_ishr h dX0_hostGets_47 rfl ?_
    refine G_iconst h dX0_hostGets_48 ki_1 rfl ?_
    refine G_iand h dX0_hostGets_49 rfl ?_
    refine G_iconst h dX0_hostGets_50 ki_1 rfl ?_
    refine G_icmp_ne h dX0_hostGets_51 (tgt := 82) (by decide) rfl (fun c6 => ?_) (fun c6 => ?_)
    · have hf := it_f c6 hf
      refine G_iload h dX0_hostGets_82 rfl rfl ?_
      exact roI hR dX0_hostGets_84 hf
    · have hf := it_t c6 hf
      refine G_iload h dX0_hostGets_54 rfl rfl ?_
      refine G_iconst h dX0_hostGets_56 ki_1 rfl ?_
      refine G_aload_n h dX0_hostGets_57 (i := 0) rfl rfl rfl ?_
      refine G_iload h dX0_hostGets_58 rfl rfl ?_
      have hJ : G X E (0, 0) 68 [some (.ref v0), some (.int v1), some (.int v2), some (.int v3), some (.int v4), some (.int v5), some (.int v6), some (.int x1), some (.int x5)] [.int (if v6 = 0 then v1 else v2), .ref v0, .int (1 : Int32), .int x5] M := by
        refine G_aload_n h dX0_hostGets_68 (i := 0) rfl rfl rfl ?_
        refine gf_X0_25 h hE dX0_hostGets_69 h0 rfl ?_
        refine gf_X0_120 h dX0_hostGets_72 ((w_0_3 hE h0).2) rfl ?_
        obtain ⟨x8, hx8, hf⟩ := bd hf
        refine cl_X0_103 h (ok_X0_worth hE _ h0 hx8) dX0_hostGets_75 h0 (as := [.int (if v6 = 0 then v1 else v2), .int (mi M (rr E v0 3) 4)]) rfl rfl ⟨rfl, rfl, Nat.le_of_ble_eq_true rfl, Nat.le_of_ble_eq_true rfl⟩ rfl (Nat.le_of_ble_eq_true rfl) ?_
        refine G_iadd h dX0_hostGets_78 rfl ?_
        refine G_isub h dX0_hostGets_79 rfl ?_
        refine G_istore h dX0_hostGets_80  (by decide) (L' := [some (.ref v0), some (.int v1), some (.int v2), some (.int v3), some (.int v4), some (.int v5), some (.int v6), some (.int x1), some (.int (x5 - ((1 : Int32) + x8)))]) rfl rfl ?_
        refine G_iload h dX0_hostGets_82 rfl rfl ?_
        exact roI hR dX0_hostGets_84 hf
      refine G_if_ne h dX0_hostGets_60 (tgt := 67) (by decide) rfl (fun c7 => ?_) (fun c7 => ?_)
      · refine G_iload_n h dX0_hostGets_67 (i := 2) rfl rfl rfl ?_
        exact G_ifn c7 hJ
      · refine G_iload_n h dX0_hostGets_63 (i := 1) rfl rfl rfl ?_
        refine G_goto h dX0_hostGets_64 (tgt := 68) (by decide) ?_
        exact G_ifp c7 hJ
  refine G_if_eq h dX0_hostGets_33 (tgt := 40) (by decide) rfl (fun c4 => ?_) (fun c4 => ?_)
  · refine G_iconst h dX0_hostGets_40 ki_0 rfl ?_
    exact G_ifp c4 hJ
  · refine G_iconst h dX0_hostGets_36 ki_4 rfl ?_
    refine G_goto h dX0_hostGets_37 (tgt := 41) (by decide) ?_
    exact G_ifn c4 hJ
def rm_X0_othersWhoKnow : Room := { frames := 2, cells := 0, slots := 0, locals := 45 }
def f_X0_othersWhoKnow (E : Env1) (M : Mem) (v0 : Nat) (v1 : Int32) (v2 : Int32) : Option (Int32) :=
  (f_X5_knowers E M (rr E v0 3) v2).bind fun x1 =>
  some (x1 &&& (((1 : Int32) <<< (v1 &&& 31)) ^^^ (-1 : Int32)))
set_option maxRecDepth 100000 in
set_option maxHeartbeats 4000000 in
theorem ok_X0_othersWhoKnow {E : Env1} (hE : WF E) (l0 : Launch) {M : Mem} {v0 : Nat} {v1 : Int32} {v2 : Int32} {r : Int32} (h0 : isK E v0 0) (hf : f_X0_othersWhoKnow E M v0 v1 v2 = some r) : Met l0 yX0_othersWhoKnow (wsA yX0_othersWhoKnow cX0_othersWhoKnow 3 (some .int)) rm_X0_othersWhoKnow (CP E M [.ref v0, .int v1, .int v2]) (CQi E r M) 0 0 (eA E) := by
  unfold f_X0_othersWhoKnow at hf
  refine mtI l0 (by decide +kernel) (Nat.le_of_ble_eq_true rfl) (L0 := [some (.ref v0), some (.int v1), some (.int v2)]) rfl (fun X h hR => ?_)
  refine G_aload_n h dX0_othersWhoKnow_0 (i := 0) rfl rfl rfl ?_
  refine gf_X0_25 h hE dX0_othersWhoKnow_1 h0 rfl ?_
  refine G_iload_n h dX0_othersWhoKnow_4 (i := 2) rfl rfl rfl ?_
  obtain ⟨x1, hx1, hf⟩ := bd hf
  refine cl_X0_99 h (ok_X5_knowers hE _ ((w_0_3 hE h0).2) hx1) dX0_othersWhoKnow_5 ((w_0_3 hE h0).2) (as := [.int v2]) rfl rfl ⟨rfl, rfl, Nat.le_of_ble_eq_true rfl, Nat.le_of_ble_eq_true rfl⟩ rfl (Nat.le_of_ble_eq_true rfl) ?_
  refine G_iconst h dX0_othersWhoKnow_8 ki_1 rfl ?_
  refine G_iload_n h dX0_othersWhoKnow_9 (i := 1) rfl rfl rfl ?_
  refine G_ishl h dX0_othersWhoKnow_10 rfl ?_
  refine G_iconst h dX0_othersWhoKnow_11 ki_m1 rfl ?_
  refine G_ixor h dX0_othersWhoKnow_12 rfl ?_
  refine G_iand h dX0_othersWhoKnow_13 rfl ?_
  exact roI hR dX0_othersWhoKnow_14 hf
def rm_X0_introduce : Room := { frames := 4, cells := 0, slots := 0, locals := 95 }
def f_X0_introduce (E : Env1) (M : Mem) (v0 : Nat) (v1 : Int32) (v2 : Int32) : Option (Mem) :=
  (f_X0_othersWhoKnow E M v0 v1 v2).bind fun x1 =>
  (f_X0_couldMeet E M v0 v1 v2 x1 (mi M (rr E v0 3) 4)).bind fun x3 =>
  if x3 = 0 then (
    (f_X5_passMinute E M (rr E v0 3)).bind fun x5 =>
    some x5)
  else (
    (f_X5_learn E M (rr E v0 3) v1 v2).bind fun x6 =>
    (f_X5_passMinute E x6 (rr E v0 3)).bind fun x7 =>
    some x7)
set_option maxRecDepth 100000 in
set_option maxHeartbeats 4000000 in
theorem ok_X0_introduce {E : Env1} (hE : WF E) (l0 : Launch) {M : Mem} {M' : Mem} {v0 : Nat} {v1 : Int32} {v2 : Int32} (h0 : isK E v0 0) (hf : f_X0_introduce E M v0 v1 v2 = some (M')) : Met l0 yX0_introduce (wsA yX0_introduce cX0_introduce 3 none) rm_X0_introduce (CP E M [.ref v0, .int v1, .int v2]) (CQv E M') 0 0 (eA E) := by
  unfold f_X0_introduce at hf
  refine mtV l0 (by decide +kernel) (Nat.le_of_ble_eq_true rfl) (L0 := [some (.ref v0), some (.int v1), some (.int v2)]) rfl (fun X h hR => ?_)
  refine G_aload_n h dX0_introduce_0 (i := 0) rfl rfl rfl ?_
  refine G_iload_n h dX0_introduce_1 (i := 1) rfl rfl rfl ?_
  refine G_iload_n h dX0_introduce_2 (i := 2) rfl rfl rfl ?_
  refine G_aload_n h dX0_introduce_3 (i := 0) rfl rfl rfl ?_
  refine G_iload_n h dX0_introduce_4 (i := 1) rfl rfl rfl ?_
  refine G_iload_n h dX0_introduce_5 (i := 2) rfl rfl rfl ?_
  obtain ⟨x1, hx1, hf⟩ := bd hf
  refine cl_X0_117 h (ok_X0_othersWhoKnow hE _ h0 hx1) dX0_introduce_6 h0 (as := [.int v1, .int v2]) rfl rfl ⟨rfl, rfl, Nat.le_of_ble_eq_true rfl, Nat.le_of_ble_eq_true rfl⟩ rfl (Nat.le_of_ble_eq_true rfl) ?_
  refine G_aload_n h dX0_introduce_9 (i := 0) rfl rfl rfl ?_
  refine gf_X0_25 h hE dX0_introduce_10 h0 rfl ?_
  refine gf_X0_120 h dX0_introduce_13 ((w_0_3 hE h0).2) rfl ?_
  obtain ⟨x3, hx3, hf⟩ := bd hf
  refine cl_X0_123 h (ok_X0_couldMeet hE _ h0 hx3) dX0_introduce_16 h0 (as := [.int v1, .int v2, .int x1, .int (mi M (rr E v0 3) 4)]) rfl rfl ⟨rfl, rfl, Nat.le_of_ble_eq_true rfl, Nat.le_of_ble_eq_true rfl⟩ rfl (Nat.le_of_ble_eq_true rfl) (fun z2 => ?_)
  refine G_if_eq h dX0_introduce_19 (tgt := 31) (by decide) rfl (fun c4 => ?_) (fun c4 => ?_)
  · have hf := it_t c4 hf
    refine G_aload_n h dX0_introduce_31 (i := 0) rfl rfl rfl ?_
    refine gf_X0_25 h hE dX0_introduce_32 h0 rfl ?_
    obtain ⟨x5, hx5, hf⟩ := bd hf
    refine cl_X0_131 h (ok_X5_passMinute hE _ ((w_0_3 hE h0).2) hx5) dX0_introduce_35 ((w_0_3 hE h0).2) (as := []) rfl rfl ⟨rfl, rfl, Nat.le_of_ble_eq_true rfl, Nat.le_of_ble_eq_true rfl⟩ rfl (Nat.le_of_ble_eq_true rfl) ?_
    exact pwV hR dX0_introduce_38 hf
  · have hf := it_f c4 hf
    refine G_aload_n h dX0_introduce_22 (i := 0) rfl rfl rfl ?_
    refine gf_X0_25 h hE dX0_introduce_23 h0 rfl ?_
    refine G_iload_n h dX0_introduce_26 (i := 1) rfl rfl rfl ?_
    refine G_iload_n h dX0_introduce_27 (i := 2) rfl rfl rfl ?_
    obtain ⟨x6, hx6, hf⟩ := bd hf
    refine cl_X0_127 h (ok_X5_learn hE _ ((w_0_3 hE h0).2) hx6) dX0_introduce_28 ((w_0_3 hE h0).2) (as := [.int v1, .int v2]) rfl rfl ⟨rfl, rfl, Nat.le_of_ble_eq_true rfl, Nat.le_of_ble_eq_true rfl⟩ rfl (Nat.le_of_ble_eq_true rfl) ?_
    refine G_aload_n h dX0_introduce_31 (i := 0) rfl rfl rfl ?_
    refine gf_X0_25 h hE dX0_introduce_32 h0 rfl ?_
    obtain ⟨x7, hx7, hf⟩ := bd hf
    refine cl_X0_131 h (ok_X5_passMinute hE _ ((w_0_3 hE h0).2) hx7) dX0_introduce_35 ((w_0_3 hE h0).2) (as := []) rfl rfl ⟨rfl, rfl, Nat.le_of_ble_eq_true rfl, Nat.le_of_ble_eq_true rfl⟩ rfl (Nat.le_of_ble_eq_true rfl) ?_
    exact pwV hR dX0_introduce_38 hf
def rm_X0_lacking : Room := { frames := 0, cells := 0, slots := 0, locals := 0 }
def b_X0_lacking_L15 (E : Env1) (M : Mem) (k15 : Nat → Int32 → Int32 → Int32 → Int32 → (Option (Int32))) (v0 : Nat) (v1 : Int32) (v2 : Int32) (v3 : Int32) (v4 : Int32) : Option (Int32) :=
  if v2 < v4 then (gd v1 6 (some (v3 &&& ((mi M (rr E (rr E v0 3) 1) (ix v1)) ^^^ (-1 : Int32)))))
  else (
    if (8 : Int32) ≤ v4 then (gd v1 6 (some (v3 &&& ((mi M (rr E (rr E v0 3) 1) (ix v1)) ^^^ (-1 : Int32)))))
    else (
      nm (v3 ||| ((1 : Int32) <<< (v4 &&& 31))) fun x5 =>
      k15 v0 v1 v2 x5 (v4 + 1)))
set_option maxRecDepth 100000 in
set_option maxHeartbeats 4000000 in
theorem ob_X0_lacking_L15 {X : Ctx} {l0 : Launch} {E : Env1} (h : Cx X l0 E RX0 cX0_lacking (some .int) 5 rm_X0_lacking) (hE : WF E) {M : Mem} {r : Int32} (hR : RetI X E cX0_lacking r M) {k15 : Nat → Int32 → Int32 → Int32 → Int32 → (Option (Int32))} (hk15 : ∀ (v0 : Nat) (v1 : Int32) (v2 : Int32) (v3 : Int32) (v4 : Int32), isK E v0 0 → k15 v0 v1 v2 v3 v4 = some r → G X E (0, 0) 15 [some (.ref v0), some (.int v1), some (.int v2), some (.int v3), some (.int v4)] [] M) {v0 : Nat} {v1 : Int32} {v2 : Int32} {v3 : Int32} {v4 : Int32} (h_v0 : isK E v0 0) (hf : b_X0_lacking_L15 E M k15 v0 v1 v2 v3 v4 = some r) : G X E (0, 0) 15 [some (.ref v0), some (.int v1), some (.int v2), some (.int v3), some (.int v4)] [] M := by
  unfold b_X0_lacking_L15 at hf
  refine G_iload h dX0_lacking_15 rfl rfl ?_
  refine G_iload_n h dX0_lacking_17 (i := 2) rfl rfl rfl ?_
  refine G_icmp_gt h dX0_lacking_18 (tgt := 41) (by decide) rfl (fun c1 => ?_) (fun c1 => ?_)
  · have hf := it_t c1 hf
    refine G_iload_n h dX0_lacking_41 (i := 3) rfl rfl rfl ?_
    refine G_aload_n h dX0_lacking_42 (i := 0) rfl rfl rfl ?_
    refine gf_X0_25 h hE dX0_lacking_43 h_v0 rfl ?_
    refine gf_X0_134 h hE dX0_lacking_46 ((w_0_3 hE h_v0).2) rfl ?_
    refine G_iload_n h dX0_lacking_49 (i := 1) rfl rfl rfl ?_
    obtain ⟨g2, hf⟩ := gd_some hf
    refine G_iald h dX0_lacking_50 ((w_4_1 hE ((w_0_3 hE h_v0).2)).2) g2 (jx := (ix v1)) rfl rfl ?_
    refine G_iconst h dX0_lacking_51 ki_m1 rfl ?_
    refine G_ixor h dX0_lacking_52 rfl ?_
    refine G_iand h dX0_lacking_53 rfl ?_
    exact roI hR dX0_lacking_54 hf
  · have hf := it_f c1 hf
    refine G_iload h dX0_lacking_21 rfl rfl ?_
    refine G_bipush h dX0_lacking_23 kb_8 rfl ?_
    refine G_icmp_ge h dX0_lacking_25 (tgt := 41) (by decide) rfl (fun c3 => ?_) (fun c3 => ?_)
    · have hf := it_t c3 hf
      refine G_iload_n h dX0_lacking_41 (i := 3) rfl rfl rfl ?_
      refine G_aload_n h dX0_lacking_42 (i := 0) rfl rfl rfl ?_
      refine gf_X0_25 h hE dX0_lacking_43 h_v0 rfl ?_
      refine gf_X0_134 h hE dX0_lacking_46 ((w_0_3 hE h_v0).2) rfl ?_
      refine G_iload_n h dX0_lacking_49 (i := 1) rfl rfl rfl ?_
      obtain ⟨g4, hf⟩ := gd_some hf
      refine G_iald h dX0_lacking_50 ((w_4_1 hE ((w_0_3 hE h_v0).2)).2) g4 (jx := (ix v1)) rfl rfl ?_
      refine G_iconst h dX0_lacking_51 ki_m1 rfl ?_
      refine G_ixor h dX0_lacking_52 rfl ?_
      refine G_iand h dX0_lacking_53 rfl ?_
      exact roI hR dX0_lacking_54 hf
    · have hf := it_f c3 hf
      refine G_iload_n h dX0_lacking_28 (i := 3) rfl rfl rfl ?_
      refine G_iconst h dX0_lacking_29 ki_1 rfl ?_
      refine G_iload h dX0_lacking_30 rfl rfl ?_
      refine G_ishl h dX0_lacking_32 rfl ?_
      refine G_ior h dX0_lacking_33 rfl ?_
      refine G_nmi (fun x5 hx5 => ?_)
      have hf := nm_eq hx5 hf
      refine G_istore_n h dX0_lacking_34 (i := 3) rfl (by decide) (L' := [some (.ref v0), some (.int v1), some (.int v2), some (.int x5), some (.int v4)]) rfl rfl ?_
      refine G_iinc2 h dX0_lacking_35 rfl ki_1 (by decide) (L' := [some (.ref v0), some (.int v1), some (.int v2), some (.int x5), some (.int (v4 + 1))]) rfl rfl ?_
      refine G_goto h dX0_lacking_38 (tgt := 15) (by decide) ?_
      exact hk15 _ _ _ _ _ h_v0 hf
def f_X0_lacking_L15 (E : Env1) (M : Mem) : Nat → Nat → Int32 → Int32 → Int32 → Int32 → (Option (Int32))
  | 0 => fun _ _ _ _ _ => none
  | n + 1 => b_X0_lacking_L15 E M (f_X0_lacking_L15 E M n)
theorem o_X0_lacking_L15 {X : Ctx} {l0 : Launch} {E : Env1} (h : Cx X l0 E RX0 cX0_lacking (some .int) 5 rm_X0_lacking) (hE : WF E) {M : Mem} {r : Int32} (hR : RetI X E cX0_lacking r M) : ∀ (n : Nat) (v0 : Nat) (v1 : Int32) (v2 : Int32) (v3 : Int32) (v4 : Int32), isK E v0 0 → f_X0_lacking_L15 E M n v0 v1 v2 v3 v4 = some r → G X E (0, 0) 15 [some (.ref v0), some (.int v1), some (.int v2), some (.int v3), some (.int v4)] [] M := by
  intro n
  induction n with
  | zero =>
    intro _ _ _ _ _ a0 hf
    have h0 : (none : Option (Int32)) = some r := hf
    cases h0
  | succ n ih =>
    intro _ _ _ _ _ a0 hf
    exact ob_X0_lacking_L15 h hE hR  ih a0 hf
def f_X0_lacking (E : Env1) (M : Mem) (v0 : Nat) (v1 : Int32) (v2 : Int32) : Option (Int32) :=
  gd v1 6 (nm ((mi M (rr E (rr E v0 3) 2) (ix v1)) + (1 : Int32)) fun x2 =>
  f_X0_lacking_L15 E M FU v0 v1 v2 (0 : Int32) x2)
set_option maxRecDepth 100000 in
set_option maxHeartbeats 4000000 in
theorem ok_X0_lacking {E : Env1} (hE : WF E) (l0 : Launch) {M : Mem} {v0 : Nat} {v1 : Int32} {v2 : Int32} {r : Int32} (h0 : isK E v0 0) (hf : f_X0_lacking E M v0 v1 v2 = some r) : Met l0 yX0_lacking (wsA yX0_lacking cX0_lacking 5 (some .int)) rm_X0_lacking (CP E M [.ref v0, .int v1, .int v2]) (CQi E r M) 0 0 (eA E) := by
  unfold f_X0_lacking at hf
  refine mtI l0 (by decide +kernel) (Nat.le_of_ble_eq_true rfl) (L0 := [some (.ref v0), some (.int v1), some (.int v2), none, none]) rfl (fun X h hR => ?_)
  refine G_iconst h dX0_lacking_0 ki_0 rfl ?_
  refine G_istore_n h dX0_lacking_1 (i := 3) rfl (by decide) (L' := [some (.ref v0), some (.int v1), some (.int v2), some (.int (0 : Int32)), none]) rfl rfl ?_
  refine G_aload_n h dX0_lacking_2 (i := 0) rfl rfl rfl ?_
  refine gf_X0_25 h hE dX0_lacking_3 h0 rfl ?_
  refine gf_X0_88 h hE dX0_lacking_6 ((w_0_3 hE h0).2) rfl ?_
  refine G_iload_n h dX0_lacking_9 (i := 1) rfl rfl rfl ?_
  obtain ⟨g1, hf⟩ := gd_some hf
  refine G_iald h dX0_lacking_10 ((w_4_2 hE ((w_0_3 hE h0).2)).2) g1 (jx := (ix v1)) rfl rfl ?_
  refine G_iconst h dX0_lacking_11 ki_1 rfl ?_
  refine G_iadd h dX0_lacking_12 rfl ?_
  refine G_nmi (fun x2 hx2 => ?_)
  have hf := nm_eq hx2 hf
  refine G_istore h dX0_lacking_13  (by decide) (L' := [some (.ref v0), some (.int v1), some (.int v2), some (.int (0 : Int32)), some (.int x2)]) rfl rfl ?_
  exact o_X0_lacking_L15 h hE hR  FU _ _ _ _ _ h0 hf
def rm_X0_meetable : Room := { frames := 4, cells := 0, slots := 0, locals := 95 }
def b_X0_meetable_L6 (E : Env1) (M : Mem) (k6 : Nat → Int32 → Int32 → Int32 → Int32 → Int32 → (Option (Int32))) (v0 : Nat) (v1 : Int32) (v2 : Int32) (v3 : Int32) (v4 : Int32) (v5 : Int32) : Option (Int32) :=
  if (8 : Int32) ≤ v5 then (some v4)
  else (
    if ((v2 >>> (v5 &&& 31)) &&& (1 : Int32)) = (1 : Int32) then (
      (f_X0_othersWhoKnow E M v0 v1 v5).bind fun x3 =>
      (f_X0_couldMeet E M v0 v1 v5 x3 v3).bind fun x5 =>
      if x5 = 0 then (k6 v0 v1 v2 v3 v4 (v5 + 1))
      else (
        nm (v4 ||| ((1 : Int32) <<< (v5 &&& 31))) fun x7 =>
        k6 v0 v1 v2 v3 x7 (v5 + 1)))
    else (k6 v0 v1 v2 v3 v4 (v5 + 1)))
set_option maxRecDepth 100000 in
set_option maxHeartbeats 4000000 in
theorem ob_X0_meetable_L6 {X : Ctx} {l0 : Launch} {E : Env1} (h : Cx X l0 E RX0 cX0_meetable (some .int) 6 rm_X0_meetable) (hE : WF E) {M : Mem} {r : Int32} (hR : RetI X E cX0_meetable r M) {k6 : Nat → Int32 → Int32 → Int32 → Int32 → Int32 → (Option (Int32))} (hk6 : ∀ (v0 : Nat) (v1 : Int32) (v2 : Int32) (v3 : Int32) (v4 : Int32) (v5 : Int32), isK E v0 0 → k6 v0 v1 v2 v3 v4 v5 = some r → G X E (0, 0) 6 [some (.ref v0), some (.int v1), some (.int v2), some (.int v3), some (.int v4), some (.int v5)] [] M) {v0 : Nat} {v1 : Int32} {v2 : Int32} {v3 : Int32} {v4 : Int32} {v5 : Int32} (h_v0 : isK E v0 0) (hf : b_X0_meetable_L6 E M k6 v0 v1 v2 v3 v4 v5 = some r) : G X E (0, 0) 6 [some (.ref v0), some (.int v1), some (.int v2), some (.int v3), some (.int v4), some (.int v5)] [] M := by
  unfold b_X0_meetable_L6 at hf
  refine G_iload h dX0_meetable_6 rfl rfl ?_
  refine G_bipush h dX0_meetable_8 kb_8 rfl ?_
  refine G_icmp_ge h dX0_meetable_10 (tgt := 56) (by decide) rfl (fun c1 => ?_) (fun c1 => ?_)
  · have hf := it_t c1 hf
    refine G_iload h dX0_meetable_56 rfl rfl ?_
    exact roI hR dX0_meetable_58 hf
  · have hf := it_f c1 hf
    refine G_iload_n h dX0_meetable_13 (i := 2) rfl rfl rfl ?_
    refine G_iload h dX0_meetable_14 rfl rfl ?_
    refine G_ishr h dX0_meetable_16 rfl ?_
    refine G_iconst h dX0_meetable_17 ki_1 rfl ?_
    refine G_iand h dX0_meetable_18 rfl ?_
    refine G_iconst h dX0_meetable_19 ki_1 rfl ?_
    refine G_icmp_ne h dX0_meetable_20 (tgt := 50) (by decide) rfl (fun c2 => ?_) (fun c2 => ?_)
    · have hf := it_f c2 hf
      refine G_iinc2 h dX0_meetable_50 rfl ki_1 (by decide) (L' := [some (.ref v0), some (.int v1), some (.int v2), some (.int v3), some (.int v4), some (.int (v5 + 1))]) rfl rfl ?_
      refine G_goto h dX0_meetable_53 (tgt := 6) (by decide) ?_
      exact hk6 _ _ _ _ _ _ h_v0 hf
    · have hf := it_t c2 hf
      refine G_aload_n h dX0_meetable_23 (i := 0) rfl rfl rfl ?_
      refine G_iload_n h dX0_meetable_24 (i := 1) rfl rfl rfl ?_
      refine G_iload h dX0_meetable_25 rfl rfl ?_
      refine G_aload_n h dX0_meetable_27 (i := 0) rfl rfl rfl ?_
      refine G_iload_n h dX0_meetable_28 (i := 1) rfl rfl rfl ?_
      refine G_iload h dX0_meetable_29 rfl rfl ?_
      obtain ⟨x3, hx3, hf⟩ := bd hf
      refine cl_X0_117 h (ok_X0_othersWhoKnow hE _ h_v0 hx3) dX0_meetable_31 h_v0 (as := [.int v1, .int v5]) rfl rfl ⟨rfl, rfl, Nat.le_of_ble_eq_true rfl, Nat.le_of_ble_eq_true rfl⟩ rfl (Nat.le_of_ble_eq_true rfl) ?_
      refine G_iload_n h dX0_meetable_34 (i := 3) rfl rfl rfl ?_
      obtain ⟨x5, hx5, hf⟩ := bd hf
      refine cl_X0_123 h (ok_X0_couldMeet hE _ h_v0 hx5) dX0_meetable_35 h_v0 (as := [.int v1, .int v5, .int x3, .int v3]) rfl rfl ⟨rfl, rfl, Nat.le_of_ble_eq_true rfl, Nat.le_of_ble_eq_true rfl⟩ rfl (Nat.le_of_ble_eq_true rfl) (fun z4 => ?_)
      refine G_if_eq h dX0_meetable_38 (tgt := 50) (by decide) rfl (fun c6 => ?_) (fun c6 => ?_)
      · have hf := it_t c6 hf
        refine G_iinc2 h dX0_meetable_50 rfl ki_1 (by decide) (L' := [some (.ref v0), some (.int v1), some (.int v2), some (.int v3), some (.int v4), some (.int (v5 + 1))]) rfl rfl ?_
        refine G_goto h dX0_meetable_53 (tgt := 6) (by decide) ?_
        exact hk6 _ _ _ _ _ _ h_v0 hf
      · have hf := it_f c6 hf
        refine G_iload h dX0_meetable_41 rfl rfl ?_
        refine G_iconst h dX0_meetable_43 ki_1 rfl ?_
        refine G_iload h dX0_meetable_44 rfl rfl ?_
        refine G_ishl h dX0_meetable_46 rfl ?_
        refine G_ior h dX0_meetable_47 rfl ?_
        refine G_nmi (fun x7 hx7 => ?_)
        have hf := nm_eq hx7 hf
        refine G_istore h dX0_meetable_48  (by decide) (L' := [some (.ref v0), some (.int v1), some (.int v2), some (.int v3), some (.int x7), some (.int v5)]) rfl rfl ?_
        refine G_iinc2 h dX0_meetable_50 rfl ki_1 (by decide) (L' := [some (.ref v0), some (.int v1), some (.int v2), some (.int v3), some (.int x7), some (.int (v5 + 1))]) rfl rfl ?_
        refine G_goto h dX0_meetable_53 (tgt := 6) (by decide) ?_
        exact hk6 _ _ _ _ _ _ h_v0 hf
def f_X0_meetable_L6 (E : Env1) (M : Mem) : Nat → Nat → Int32 → Int32 → Int32 → Int32 → Int32 → (Option (Int32))
  | 0 => fun _ _ _ _ _ _ => none
  | n + 1 => b_X0_meetable_L6 E M (f_X0_meetable_L6 E M n)
theorem o_X0_meetable_L6 {X : Ctx} {l0 : Launch} {E : Env1} (h : Cx X l0 E RX0 cX0_meetable (some .int) 6 rm_X0_meetable) (hE : WF E) {M : Mem} {r : Int32} (hR : RetI X E cX0_meetable r M) : ∀ (n : Nat) (v0 : Nat) (v1 : Int32) (v2 : Int32) (v3 : Int32) (v4 : Int32) (v5 : Int32), isK E v0 0 → f_X0_meetable_L6 E M n v0 v1 v2 v3 v4 v5 = some r → G X E (0, 0) 6 [some (.ref v0), some (.int v1), some (.int v2), some (.int v3), some (.int v4), some (.int v5)] [] M := by
  intro n
  induction n with
  | zero =>
    intro _ _ _ _ _ _ a0 hf
    have h0 : (none : Option (Int32)) = some r := hf
    cases h0
  | succ n ih =>
    intro _ _ _ _ _ _ a0 hf
    exact ob_X0_meetable_L6 h hE hR  ih a0 hf
def f_X0_meetable (E : Env1) (M : Mem) (v0 : Nat) (v1 : Int32) (v2 : Int32) (v3 : Int32) : Option (Int32) :=
  f_X0_meetable_L6 E M FU v0 v1 v2 v3 (0 : Int32) (0 : Int32)
set_option maxRecDepth 100000 in
set_option maxHeartbeats 4000000 in
theorem ok_X0_meetable {E : Env1} (hE : WF E) (l0 : Launch) {M : Mem} {v0 : Nat} {v1 : Int32} {v2 : Int32} {v3 : Int32} {r : Int32} (h0 : isK E v0 0) (hf : f_X0_meetable E M v0 v1 v2 v3 = some r) : Met l0 yX0_meetable (wsA yX0_meetable cX0_meetable 6 (some .int)) rm_X0_meetable (CP E M [.ref v0, .int v1, .int v2, .int v3]) (CQi E r M) 0 0 (eA E) := by
  unfold f_X0_meetable at hf
  refine mtI l0 (by decide +kernel) (Nat.le_of_ble_eq_true rfl) (L0 := [some (.ref v0), some (.int v1), some (.int v2), some (.int v3), none, none]) rfl (fun X h hR => ?_)
  refine G_iconst h dX0_meetable_0 ki_0 rfl ?_
  refine G_istore h dX0_meetable_1  (by decide) (L' := [some (.ref v0), some (.int v1), some (.int v2), some (.int v3), some (.int (0 : Int32)), none]) rfl rfl ?_
  refine G_iconst h dX0_meetable_3 ki_0 rfl ?_
  refine G_istore h dX0_meetable_4  (by decide) (L' := [some (.ref v0), some (.int v1), some (.int v2), some (.int v3), some (.int (0 : Int32)), some (.int (0 : Int32))]) rfl rfl ?_
  exact o_X0_meetable_L6 h hE hR  FU _ _ _ _ _ _ h0 hf
def rm_X0_remember : Room := { frames := 1, cells := 0, slots := 0, locals := 22 }
def f_X0_remember_L13 (E : Env1) (M : Mem) (v0 : Nat) : Option (Mem) :=
  if (f_X8_within E M (mi M v0 5) (0 : Int32) (7 : Int32)) = 0 then (some M)
  else (
    gd (mi M v0 5) 8 ((f_X5_copyFrom E M (mr M (rr E v0 4) (ix (mi M v0 5))) (rr E v0 3)).bind fun x5 =>
    some (wi x5 v0 5 ((mi x5 v0 5) + (1 : Int32)))))
set_option maxRecDepth 100000 in
set_option maxHeartbeats 4000000 in
theorem o_X0_remember_L13 {X : Ctx} {l0 : Launch} {E : Env1} (h : Cx X l0 E RX0 cX0_remember none 1 rm_X0_remember) (hE : WF E) {M' : Mem} (hR : RetV X E cX0_remember M') {M : Mem} {v0 : Nat} (h_v0 : isK E v0 0) (hf : f_X0_remember_L13 E M v0 = some (M')) : G X E (0, 0) 13 [some (.ref v0)] [] M := by
  unfold f_X0_remember_L13 at hf
  refine G_aload_n h dX0_remember_13 (i := 0) rfl rfl rfl ?_
  refine gf_X0_33 h dX0_remember_14 h_v0 rfl ?_
  refine G_iconst h dX0_remember_17 ki_0 rfl ?_
  refine G_bipush h dX0_remember_18 kb_7 rfl ?_
  refine cl_X0_81 h (ok_X8_within hE _  (r := f_X8_within E M (mi M v0 5) (0 : Int32) (7 : Int32)) rfl) dX0_remember_20 (as := [.int (mi M v0 5), .int (0 : Int32), .int (7 : Int32)]) rfl rfl ⟨rfl, rfl, Nat.le_of_ble_eq_true rfl, Nat.le_of_ble_eq_true rfl⟩ rfl (Nat.le_of_ble_eq_true rfl) (fun z1 => ?_)
  refine G_if_eq h dX0_remember_23 (tgt := 52) (by decide) rfl (fun c2 => ?_) (fun c2 => ?_)
  · have hf := it_t c2 hf
    exact pwV hR dX0_remember_52 hf
  · have hf := it_f c2 hf
    refine G_aload_n h dX0_remember_26 (i := 0) rfl rfl rfl ?_
    refine gf_X0_29 h hE dX0_remember_27 h_v0 rfl ?_
    refine G_aload_n h dX0_remember_30 (i := 0) rfl rfl rfl ?_
    refine gf_X0_33 h dX0_remember_31 h_v0 rfl ?_
    obtain ⟨g3, hf⟩ := gd_some hf
    refine G_aldS h hE dX0_remember_34 ((w_0_4 hE h_v0).2) g3 (jx := (ix (mi M v0 5))) rfl rfl (fun hs4 => ?_)
    refine G_aload_n h dX0_remember_35 (i := 0) rfl rfl rfl ?_
    refine gf_X0_25 h hE dX0_remember_36 h_v0 rfl ?_
    obtain ⟨x5, hx5, hf⟩ := bd hf
    refine cl_X0_70 h (ok_X5_copyFrom hE _ hs4 ((w_0_3 hE h_v0).2) hx5) dX0_remember_39 hs4 (as := [.ref (rr E v0 3)]) rfl rfl ⟨rfl, rfl, Nat.le_of_ble_eq_true rfl, Nat.le_of_ble_eq_true rfl⟩ rfl (Nat.le_of_ble_eq_true rfl) ?_
    refine G_aload_n h dX0_remember_42 (i := 0) rfl rfl rfl ?_
    refine G_dup h dX0_remember_43 rfl rfl ?_
    refine gf_X0_33 h dX0_remember_44 h_v0 rfl ?_
    refine G_iconst h dX0_remember_47 ki_1 rfl ?_
    refine G_iadd h dX0_remember_48 rfl ?_
    refine pf_X0_33 h dX0_remember_49 h_v0 rfl ?_
    exact pwV hR dX0_remember_52 hf
def f_X0_remember (E : Env1) (M : Mem) (v0 : Nat) : Option (Mem) :=
  if (mi M v0 5) < (8 : Int32) then (f_X0_remember_L13 E M v0)
  else (
    (f_X0_dropOldest E M v0).bind fun x2 =>
    f_X0_remember_L13 E x2 v0)
set_option maxRecDepth 100000 in
set_option maxHeartbeats 4000000 in
theorem ok_X0_remember {E : Env1} (hE : WF E) (l0 : Launch) {M : Mem} {M' : Mem} {v0 : Nat} (h0 : isK E v0 0) (hf : f_X0_remember E M v0 = some (M')) : Met l0 yX0_remember (wsA yX0_remember cX0_remember 1 none) rm_X0_remember (CP E M [.ref v0]) (CQv E M') 0 0 (eA E) := by
  unfold f_X0_remember at hf
  refine mtV l0 (by decide +kernel) (Nat.le_of_ble_eq_true rfl) (L0 := [some (.ref v0)]) rfl (fun X h hR => ?_)
  refine G_aload_n h dX0_remember_0 (i := 0) rfl rfl rfl ?_
  refine gf_X0_33 h dX0_remember_1 h0 rfl ?_
  refine G_bipush h dX0_remember_4 kb_8 rfl ?_
  refine G_icmp_lt h dX0_remember_6 (tgt := 13) (by decide) rfl (fun c1 => ?_) (fun c1 => ?_)
  · have hf := it_t c1 hf
    exact o_X0_remember_L13 h hE hR h0 hf
  · have hf := it_f c1 hf
    refine G_aload_n h dX0_remember_9 (i := 0) rfl rfl rfl ?_
    obtain ⟨x2, hx2, hf⟩ := bd hf
    refine cl_X0_85 h (ok_X0_dropOldest hE _ h0 hx2) dX0_remember_10 h0 (as := []) rfl rfl ⟨rfl, rfl, Nat.le_of_ble_eq_true rfl, Nat.le_of_ble_eq_true rfl⟩ rfl (Nat.le_of_ble_eq_true rfl) ?_
    exact o_X0_remember_L13 h hE hR h0 hf
def rm_X0_restingPairs : Room := { frames := 5, cells := 0, slots := 0, locals := 123 }
def b_X0_restingPairs_L6 (E : Env1) (M : Mem) (k6 : Nat → Int32 → Int32 → Int32 → Int32 → Int32 → Int32 → (Option (Int32))) (v0 : Nat) (v1 : Int32) (v2 : Int32) (v3 : Int32) (v4 : Int32) (v5 : Int32) (v6 : Int32) : Option (Int32) :=
  if (4 : Int32) ≤ v6 then (some v5)
  else (
    (f_X0_hostGets E M v0 v1 v2 v3 v4 v6 (0 : Int32)).bind fun x2 =>
    (f_X0_hostGets E M v0 v1 v2 v3 v4 (v6 ^^^ (1 : Int32)) (0 : Int32)).bind fun x3 =>
    nm (if x2 < x3 then (0 : Int32) else (1 : Int32)) fun x5 =>
    (f_X0_hostGets E M v0 v1 v2 v3 v4 v6 (1 : Int32)).bind fun x6 =>
    (f_X0_hostGets E M v0 v1 v2 v3 v4 (v6 ^^^ (2 : Int32)) (1 : Int32)).bind fun x7 =>
    nm (if x6 < x7 then (0 : Int32) else (1 : Int32)) fun x9 =>
    if x5 = 0 then (k6 v0 v1 v2 v3 v4 v5 (v6 + 1))
    else (
      if x9 = 0 then (k6 v0 v1 v2 v3 v4 v5 (v6 + 1))
      else (
        nm (v5 ||| ((1 : Int32) <<< (v6 &&& 31))) fun x12 =>
        k6 v0 v1 v2 v3 v4 x12 (v6 + 1))))
set_option maxRecDepth 100000 in
set_option maxHeartbeats 4000000 in
theorem ob_X0_restingPairs_L6 {X : Ctx} {l0 : Launch} {E : Env1} (h : Cx X l0 E RX0 cX0_restingPairs (some .int) 9 rm_X0_restingPairs) (hE : WF E) {M : Mem} {r : Int32} (hR : RetI X E cX0_restingPairs r M) {k6 : Nat → Int32 → Int32 → Int32 → Int32 → Int32 → Int32 → (Option (Int32))} (hk6 : ∀ (v0 : Nat) (v1 : Int32) (v2 : Int32) (v3 : Int32) (v4 : Int32) (v5 : Int32) (v6 : Int32), isK E v0 0 → k6 v0 v1 v2 v3 v4 v5 v6 = some r → G X E (0, 0) 6 [some (.ref v0), some (.int v1), some (.int v2), some (.int v3), some (.int v4), some (.int v5), some (.int v6), none, none] [] M) {v0 : Nat} {v1 : Int32} {v2 : Int32} {v3 : Int32} {v4 : Int32} {v5 : Int32} {v6 : Int32} (h_v0 : isK E v0 0) (hf : b_X0_restingPairs_L6 E M k6 v0 v1 v2 v3 v4 v5 v6 = some r) : G X E (0, 0) 6 [some (.ref v0), some (.int v1), some (.int v2), some (.int v3), some (.int v4), some (.int v5), some (.int v6), none, none] [] M := by
  unfold b_X0_restingPairs_L6 at hf
  refine G_iload h dX0_restingPairs_6 rfl rfl ?_
  refine G_iconst h dX0_restingPairs_8 ki_4 rfl ?_
  refine G_icmp_ge h dX0_restingPairs_9 (tgt := 109) (by decide) rfl (fun c1 => ?_) (fun c1 => ?_)
  · have hf := it_t c1 hf
    refine G_iload h dX0_restingPairs_109 rfl rfl ?_
    exact roI hR dX0_restingPairs_111 hf
  · have hf := it_f c1 hf
    refine G_aload_n h dX0_restingPairs_12 (i := 0) rfl rfl rfl ?_
    refine G_iload_n h dX0_restingPairs_13 (i := 1) rfl rfl rfl ?_
    refine G_iload_n h dX0_restingPairs_14 (i := 2) rfl rfl rfl ?_
    refine G_iload_n h dX0_restingPairs_15 (i := 3) rfl rfl rfl ?_
    refine G_iload h dX0_restingPairs_16 rfl rfl ?_
    refine G_iload h dX0_restingPairs_18 rfl rfl ?_
    refine G_iconst h dX0_restingPairs_20 ki_0 rfl ?_
    obtain ⟨x2, hx2, hf⟩ := bd hf
    refine cl_X0_143 h (ok_X0_hostGets hE _ h_v0 hx2) dX0_restingPairs_21 h_v0 (as := [.int v1, .int v2, .int v3, .int v4, .int v6, .int (0 : Int32)]) rfl rfl ⟨rfl, rfl, Nat.le_of_ble_eq_true rfl, Nat.le_of_ble_eq_true rfl⟩ rfl (Nat.le_of_ble_eq_true rfl) ?_
    refine G_aload_n h dX0_restingPairs_24 (i := 0) rfl rfl rfl ?_
    refine G_iload_n h dX0_restingPairs_25 (i := 1) rfl rfl rfl ?_
    refine G_iload_n h dX0_restingPairs_26 (i := 2) rfl rfl rfl ?_
    refine G_iload_n h dX0_restingPairs_27 (i := 3) rfl rfl rfl ?_
    refine G_iload h dX0_restingPairs_28 rfl rfl ?_
    refine G_iload h dX0_restingPairs_30 rfl rfl ?_
    refine G_iconst h dX0_restingPairs_32 ki_1 rfl ?_
    refine G_ixor h dX0_restingPairs_33 rfl ?_
    refine G_iconst h dX0_restingPairs_34 ki_0 rfl ?_
    obtain ⟨x3, hx3, hf⟩ := bd hf
    refine cl_X0_143 h (ok_X0_hostGets hE _ h_v0 hx3) dX0_restingPairs_35 h_v0 (as := [.int v1, .int v2, .int v3, .int v4, .int (v6 ^^^ (1 : Int32)), .int (0 : Int32)]) rfl rfl ⟨rfl, rfl, Nat.le_of_ble_eq_true rfl, Nat.le_of_ble_eq_true rfl⟩ rfl (Nat.le_of_ble_eq_true rfl) ?_
    have hJ : G X E (0, 0) 46 [some (.ref v0), some (.int v1), some (.int v2), some (.int v3), some (.int v4), some (.int v5), some (.int v6), none, none] [.int (if x2 < x3 then (0 : Int32) else (1 : Int32))] M := by
      refine G_nmi (fun x5 hx5 => ?_)
      have hf := nm_eq hx5 hf
      refine G_istore h dX0_restingPairs_46  (by decide) (L' := [some (.ref v0), some (.int v1), some (.int v2), some (.int v3), some (.int v4), some (.int v5), some (.int v6), some (.int x5), none]) rfl rfl ?_
      refine G_aload_n h dX0_restingPairs_48 (i := 0) rfl rfl rfl ?_
      refine G_iload_n h dX0_restingPairs_49 (i := 1) rfl rfl rfl ?_
      refine G_iload_n h dX0_restingPairs_50 (i := 2) rfl rfl rfl ?_
      refine G_iload_n h dX0_restingPairs_51 (i := 3) rfl rfl rfl ?_
      refine G_iload h dX0_restingPairs_52 rfl rfl ?_
      refine G_iload h dX0_restingPairs_54 rfl rfl ?_
      refine G_iconst h dX0_restingPairs_56 ki_1 rfl ?_
      obtain ⟨x6, hx6, hf⟩ := bd hf
      refine cl_X0_143 h (ok_X0_hostGets hE _ h_v0 hx6) dX0_restingPairs_57 h_v0 (as := [.int v1, .int v2, .int v3, .int v4, .int v6, .int (1 : Int32)]) rfl rfl ⟨rfl, rfl, Nat.le_of_ble_eq_true rfl, Nat.le_of_ble_eq_true rfl⟩ rfl (Nat.le_of_ble_eq_true rfl) ?_
      refine G_aload_n h dX0_restingPairs_60 (i := 0) rfl rfl rfl ?_
      refine G_iload_n h dX0_restingPairs_61 (i := 1) rfl rfl rfl ?_
      refine G_iload_n h dX0_restingPairs_62 (i := 2) rfl rfl rfl ?_
      refine G_iload_n h dX0_restingPairs_63 (i := 3) rfl rfl rfl ?_
      refine G_iload h dX0_restingPairs_64 rfl rfl ?_
      refine G_iload h dX0_restingPairs_66 rfl rfl ?_
      refine G_iconst h dX0_restingPairs_68 ki_2 rfl ?_
      refine G_ixor h dX0_restingPairs_69 rfl ?_
      refine G_iconst h dX0_restingPairs_70 ki_1 rfl ?_
      obtain ⟨x7, hx7, hf⟩ := bd hf
      refine cl_X0_143 h (ok_X0_hostGets hE _ h_v0 hx7) dX0_restingPairs_71 h_v0 (as := [.int v1, .int v2, .int v3, .int v4, .int (v6 ^^^ (2 : Int32)), .int (1 : Int32)]) rfl rfl ⟨rfl, rfl, Nat.le_of_ble_eq_true rfl, Nat.le_of_ble_eq_true rfl⟩ rfl (Nat.le_of_ble_eq_true rfl) ?_
      have hJ : G X E (0, 0) 82 [some (.ref v0), some (.int v1), some (.int v2), some (.int v3), some (.int v4), some (.int v5), some (.int v6), some (.int x5), none] [.int (if x6 < x7 then (0 : Int32) else (1 : Int32))] M := by
        refine G_nmi (fun x9 hx9 => ?_)
        have hf := nm_eq hx9 hf
        refine G_istore h dX0_restingPairs_82  (by decide) (L' := [some (.ref v0), some (.int v1), some (.int v2), some (.int v3), some (.int v4), some (.int v5), some (.int v6), some (.int x5), some (.int x9)]) rfl rfl ?_
        refine G_iload h dX0_restingPairs_84 rfl rfl ?_
        refine G_if_eq h dX0_restingPairs_86 (tgt := 103) (by decide) rfl (fun c10 => ?_) (fun c10 => ?_)
        · have hf := it_t c10 hf
          refine G_iinc2 h dX0_restingPairs_103 rfl ki_1 (by decide) (L' := [some (.ref v0), some (.int v1), some (.int v2), some (.int v3), some (.int v4), some (.int v5), some (.int (v6 + 1)), some (.int x5), some (.int x9)]) rfl rfl ?_
          refine G_goto h dX0_restingPairs_106 (tgt := 6) (by decide) ?_
          refine G_mskL [true, true, true, true, true, true, true, false, false] (L' := [some (.ref v0), some (.int v1), some (.int v2), some (.int v3), some (.int v4), some (.int v5), some (.int (v6 + 1)), none, none]) rfl ?_
          exact hk6 _ _ _ _ _ _ _ h_v0 hf
        · have hf := it_f c10 hf
          refine G_iload h dX0_restingPairs_89 rfl rfl ?_
          refine G_if_eq h dX0_restingPairs_91 (tgt := 103) (by decide) rfl (fun c11 => ?_) (fun c11 => ?_)
          · have hf := it_t c11 hf
            refine G_iinc2 h dX0_restingPairs_103 rfl ki_1 (by decide) (L' := [some (.ref v0), some (.int v1), some (.int v2), some (.int v3), some (.int v4), some (.int v5), some (.int (v6 + 1)), some (.int x5), some (.int x9)]) rfl rfl ?_
            refine G_goto h dX0_restingPairs_106 (tgt := 6) (by decide) ?_
            refine G_mskL [true, true, true, true, true, true, true, false, false] (L' := [some (.ref v0), some (.int v1), some (.int v2), some (.int v3), some (.int v4), some (.int v5), some (.int (v6 + 1)), none, none]) rfl ?_
            exact hk6 _ _ _ _ _ _ _ h_v0 hf
          · have hf := it_f c11 hf
            refine G_iload h dX0_restingPairs_94 rfl rfl ?_
            refine G_iconst h dX0_restingPairs_96 ki_1 rfl ?_
            refine G_iload h dX0_restingPairs_97 rfl rfl ?_
            refine G_ishl h dX0_restingPairs_99 rfl ?_
            refine G_ior h dX0_restingPairs_100 rfl ?_
            refine G_nmi (fun x12 hx12 => ?_)
            have hf := nm_eq hx12 hf
            refine G_istore h dX0_restingPairs_101  (by decide) (L' := [some (.ref v0), some (.int v1), some (.int v2), some (.int v3), some (.int v4), some (.int x12), some (.int v6), some (.int x5), some (.int x9)]) rfl rfl ?_
            refine G_iinc2 h dX0_restingPairs_103 rfl ki_1 (by decide) (L' := [some (.ref v0), some (.int v1), some (.int v2), some (.int v3), some (.int v4), some (.int x12), some (.int (v6 + 1)), some (.int x5), some (.int x9)]) rfl rfl ?_
            refine G_goto h dX0_restingPairs_106 (tgt := 6) (by decide) ?_
            refine G_mskL [true, true, true, true, true, true, true, false, false] (L' := [some (.ref v0), some (.int v1), some (.int v2), some (.int v3), some (.int v4), some (.int x12), some (.int (v6 + 1)), none, none]) rfl ?_
            exact hk6 _ _ _ _ _ _ _ h_v0 hf
      refine G_icmp_lt h dX0_restingPairs_74 (tgt := 81) (by decide) rfl (fun c8 => ?_) (fun c8 => ?_)
      · refine G_iconst h dX0_restingPairs_81 ki_0 rfl ?_
        exact G_ifp c8 hJ
      · refine G_iconst h dX0_restingPairs_77 ki_1 rfl ?_
        refine G_goto h dX0_restingPairs_78 (tgt := 82) (by decide) ?_
        exact G_ifn c8 hJ
    refine G_icmp_lt h dX0_restingPairs_38 (tgt := 45) (by decide) rfl (fun c4 => ?_) (fun c4 => ?_)
    · refine G_iconst h dX0_restingPairs_45 ki_0 rfl ?_
      exact G_ifp c4 hJ
    · refine G_iconst h dX0_restingPairs_41 ki_1 rfl ?_
      refine G_goto h dX0_restingPairs_42 (tgt := 46) (by decide) ?_
      exact G_ifn c4 hJ
def f_X0_restingPairs_L6 (E : Env1) (M : Mem) : Nat → Nat → Int32 → Int32 → Int32 → Int32 → Int32 → Int32 → (Option (Int32))
  | 0 => fun _ _ _ _ _ _ _ => none
  | n + 1 => b_X0_restingPairs_L6 E M (f_X0_restingPairs_L6 E M n)
theorem o_X0_restingPairs_L6 {X : Ctx} {l0 : Launch} {E : Env1} (h : Cx X l0 E RX0 cX0_restingPairs (some .int) 9 rm_X0_restingPairs) (hE : WF E) {M : Mem} {r : Int32} (hR : RetI X E cX0_restingPairs r M) : ∀ (n : Nat) (v0 : Nat) (v1 : Int32) (v2 : Int32) (v3 : Int32) (v4 : Int32) (v5 : Int32) (v6 : Int32), isK E v0 0 → f_X0_restingPairs_L6 E M n v0 v1 v2 v3 v4 v5 v6 = some r → G X E (0, 0) 6 [some (.ref v0), some (.int v1), some (.int v2), some (.int v3), some (.int v4), some (.int v5), some (.int v6), none, none] [] M := by
  intro n
  induction n with
  | zero =>
    intro _ _ _ _ _ _ _ a0 hf
    have h0 : (none : Option (Int32)) = some r := hf
    cases h0
  | succ n ih =>
    intro _ _ _ _ _ _ _ a0 hf
    exact ob_X0_restingPairs_L6 h hE hR  ih a0 hf
def f_X0_restingPairs (E : Env1) (M : Mem) (v0 : Nat) (v1 : Int32) (v2 : Int32) (v3 : Int32) (v4 : Int32) : Option (Int32) :=
  f_X0_restingPairs_L6 E M FU v0 v1 v2 v3 v4 (0 : Int32) (0 : Int32)
set_option maxRecDepth 100000 in
set_option maxHeartbeats 4000000 in
theorem ok_X0_restingPairs {E : Env1} (hE : WF E) (l0 : Launch) {M : Mem} {v0 : Nat} {v1 : Int32} {v2 : Int32} {v3 : Int32} {v4 : Int32} {r : Int32} (h0 : isK E v0 0) (hf : f_X0_restingPairs E M v0 v1 v2 v3 v4 = some r) : Met l0 yX0_restingPairs (wsA yX0_restingPairs cX0_restingPairs 9 (some .int)) rm_X0_restingPairs (CP E M [.ref v0, .int v1, .int v2, .int v3, .int v4]) (CQi E r M) 0 0 (eA E) := by
  unfold f_X0_restingPairs at hf
  refine mtI l0 (by decide +kernel) (Nat.le_of_ble_eq_true rfl) (L0 := [some (.ref v0), some (.int v1), some (.int v2), some (.int v3), some (.int v4), none, none, none, none]) rfl (fun X h hR => ?_)
  refine G_iconst h dX0_restingPairs_0 ki_0 rfl ?_
  refine G_istore h dX0_restingPairs_1  (by decide) (L' := [some (.ref v0), some (.int v1), some (.int v2), some (.int v3), some (.int v4), some (.int (0 : Int32)), none, none, none]) rfl rfl ?_
  refine G_iconst h dX0_restingPairs_3 ki_0 rfl ?_
  refine G_istore h dX0_restingPairs_4  (by decide) (L' := [some (.ref v0), some (.int v1), some (.int v2), some (.int v3), some (.int v4), some (.int (0 : Int32)), some (.int (0 : Int32)), none, none]) rfl rfl ?_
  exact o_X0_restingPairs_L6 h hE hR  FU _ _ _ _ _ _ _ h0 hf
def rm_X0_welcome : Room := { frames := 1, cells := 0, slots := 0, locals := 22 }
def f_X0_welcome (E : Env1) (M : Mem) (v0 : Nat) (v1 : Int32) (v2 : Int32) : Option (Mem) :=
  if (f_X8_within E M (mi M v0 0) (0 : Int32) (5 : Int32)) = 0 then (some M)
  else (
    gd (mi M v0 0) 6 (gd (mi (wi M (rr E v0 1) (ix (mi M v0 0)) v1) v0 0) 6 (nm (wi (wi M (rr E v0 1) (ix (mi M v0 0)) v1) (rr E v0 2) (ix (mi (wi M (rr E v0 1) (ix (mi M v0 0)) v1) v0 0)) v2) fun M5 =>
    some (wi (wi M5 v0 0 ((mi M5 v0 0) + (1 : Int32))) v0 5 (0 : Int32)))))
set_option maxRecDepth 100000 in
set_option maxHeartbeats 4000000 in
theorem ok_X0_welcome {E : Env1} (hE : WF E) (l0 : Launch) {M : Mem} {M' : Mem} {v0 : Nat} {v1 : Int32} {v2 : Int32} (h0 : isK E v0 0) (hf : f_X0_welcome E M v0 v1 v2 = some (M')) : Met l0 yX0_welcome (wsA yX0_welcome cX0_welcome 3 none) rm_X0_welcome (CP E M [.ref v0, .int v1, .int v2]) (CQv E M') 0 0 (eA E) := by
  unfold f_X0_welcome at hf
  refine mtV l0 (by decide +kernel) (Nat.le_of_ble_eq_true rfl) (L0 := [some (.ref v0), some (.int v1), some (.int v2)]) rfl (fun X h hR => ?_)
  refine G_aload_n h dX0_welcome_0 (i := 0) rfl rfl rfl ?_
  refine gf_X0_9 h dX0_welcome_1 h0 rfl ?_
  refine G_iconst h dX0_welcome_4 ki_0 rfl ?_
  refine G_iconst h dX0_welcome_5 ki_5 rfl ?_
  refine cl_X0_81 h (ok_X8_within hE _  (r := f_X8_within E M (mi M v0 0) (0 : Int32) (5 : Int32)) rfl) dX0_welcome_6 (as := [.int (mi M v0 0), .int (0 : Int32), .int (5 : Int32)]) rfl rfl ⟨rfl, rfl, Nat.le_of_ble_eq_true rfl, Nat.le_of_ble_eq_true rfl⟩ rfl (Nat.le_of_ble_eq_true rfl) (fun z1 => ?_)
  refine G_if_eq h dX0_welcome_9 (tgt := 47) (by decide) rfl (fun c2 => ?_) (fun c2 => ?_)
  · have hf := it_t c2 hf
    exact pwV hR dX0_welcome_47 hf
  · have hf := it_f c2 hf
    refine G_aload_n h dX0_welcome_12 (i := 0) rfl rfl rfl ?_
    refine gf_X0_15 h hE dX0_welcome_13 h0 rfl ?_
    refine G_aload_n h dX0_welcome_16 (i := 0) rfl rfl rfl ?_
    refine gf_X0_9 h dX0_welcome_17 h0 rfl ?_
    refine G_iload_n h dX0_welcome_20 (i := 1) rfl rfl rfl ?_
    obtain ⟨g3, hf⟩ := gd_some hf
    refine G_iast h dX0_welcome_21 ((w_0_1 hE h0).2) g3 (jx := (ix (mi M v0 0))) rfl rfl ?_
    refine G_aload_n h dX0_welcome_22 (i := 0) rfl rfl rfl ?_
    refine gf_X0_19 h hE dX0_welcome_23 h0 rfl ?_
    refine G_aload_n h dX0_welcome_26 (i := 0) rfl rfl rfl ?_
    refine gf_X0_9 h dX0_welcome_27 h0 rfl ?_
    refine G_iload_n h dX0_welcome_30 (i := 2) rfl rfl rfl ?_
    obtain ⟨g4, hf⟩ := gd_some hf
    refine G_iast h dX0_welcome_31 ((w_0_2 hE h0).2) g4 (jx := (ix (mi (wi M (rr E v0 1) (ix (mi M v0 0)) v1) v0 0))) rfl rfl ?_
    refine G_nmM (fun M5 hM5 => ?_)
    have hf := nm_eq hM5 hf
    refine G_aload_n h dX0_welcome_32 (i := 0) rfl rfl rfl ?_
    refine G_dup h dX0_welcome_33 rfl rfl ?_
    refine gf_X0_9 h dX0_welcome_34 h0 rfl ?_
    refine G_iconst h dX0_welcome_37 ki_1 rfl ?_
    refine G_iadd h dX0_welcome_38 rfl ?_
    refine pf_X0_9 h dX0_welcome_39 h0 rfl ?_
    refine G_aload_n h dX0_welcome_42 (i := 0) rfl rfl rfl ?_
    refine G_iconst h dX0_welcome_43 ki_0 rfl ?_
    refine pf_X0_33 h dX0_welcome_44 h0 rfl ?_
    exact pwV hR dX0_welcome_47 hf
end
