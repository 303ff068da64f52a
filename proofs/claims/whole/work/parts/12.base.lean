section
def rm_X5_copyFrom : Room := { frames := 0, cells := 0, slots := 0, locals := 0 }
def b_X5_copyFrom_L28 (E : Env1) (k28 : Mem → Nat → Nat → Int32 → (Option (Mem))) (M : Mem) (v0 : Nat) (v1 : Nat) (v2 : Int32) : Option (Mem) :=
  if (6 : Int32) ≤ v2 then (some (wi (wi M v0 3 (mi M v1 3)) v0 4 (mi (wi M v0 3 (mi M v1 3)) v1 4)))
  else (
    gd v2 6 (nm (wi (wi M (rr E v0 1) (ix v2) (mi M (rr E v1 1) (ix v2))) (rr E v0 2) (ix v2) (mi (wi M (rr E v0 1) (ix v2) (mi M (rr E v1 1) (ix v2))) (rr E v1 2) (ix v2))) fun M3 =>
    k28 M3 v0 v1 (v2 + 1)))
set_option maxRecDepth 100000 in
set_option maxHeartbeats 4000000 in
theorem ob_X5_copyFrom_L28 {X : Ctx} {l0 : Launch} {E : Env1} (h : Cx X l0 E RX5 cX5_copyFrom none 3 rm_X5_copyFrom) (hE : WF E) {M' : Mem} (hR : RetV X E cX5_copyFrom M') {k28 : Mem → Nat → Nat → Int32 → (Option (Mem))} (hk28 : ∀ (M : Mem) (v0 : Nat) (v1 : Nat) (v2 : Int32), isK E v0 4 → isK E v1 4 → k28 M v0 v1 v2 = some (M') → G X E (0, 0) 28 [some (.ref v0), some (.ref v1), some (.int v2)] [] M) {M : Mem} {v0 : Nat} {v1 : Nat} {v2 : Int32} (h_v0 : isK E v0 4) (h_v1 : isK E v1 4) (hf : b_X5_copyFrom_L28 E k28 M v0 v1 v2 = some (M')) : G X E (0, 0) 28 [some (.ref v0), some (.ref v1), some (.int v2)] [] M := by
  unfold b_X5_copyFrom_L28 at hf
  refine G_iload_n h dX5_copyFrom_28 (i := 2) rfl rfl rfl ?_
  refine G_bipush h dX5_copyFrom_29 kb_6 rfl ?_
  refine G_icmp_ge h dX5_copyFrom_31 (tgt := 64) (by decide) rfl (fun c1 => ?_) (fun c1 => ?_)
  · have hf := it_t c1 hf
    refine G_aload_n h dX5_copyFrom_64 (i := 0) rfl rfl rfl ?_
    refine G_aload_n h dX5_copyFrom_65 (i := 1) rfl rfl rfl ?_
    refine gf_X5_26 h dX5_copyFrom_66 h_v1 rfl ?_
    refine pf_X5_26 h dX5_copyFrom_69 h_v0 rfl ?_
    refine G_aload_n h dX5_copyFrom_72 (i := 0) rfl rfl rfl ?_
    refine G_aload_n h dX5_copyFrom_73 (i := 1) rfl rfl rfl ?_
    refine gf_X5_30 h dX5_copyFrom_74 h_v1 rfl ?_
    refine pf_X5_30 h dX5_copyFrom_77 h_v0 rfl ?_
    exact pwV hR dX5_copyFrom_80 hf
  · have hf := it_f c1 hf
    refine G_aload_n h dX5_copyFrom_34 (i := 0) rfl rfl rfl ?_
    refine gf_X5_15 h hE dX5_copyFrom_35 h_v0 rfl ?_
    refine G_iload_n h dX5_copyFrom_38 (i := 2) rfl rfl rfl ?_
    refine G_aload_n h dX5_copyFrom_39 (i := 1) rfl rfl rfl ?_
    refine gf_X5_15 h hE dX5_copyFrom_40 h_v1 rfl ?_
    refine G_iload_n h dX5_copyFrom_43 (i := 2) rfl rfl rfl ?_
    obtain ⟨g2, hf⟩ := gd_some hf
    refine G_iald h dX5_copyFrom_44 ((w_4_1 hE h_v1).2) g2 (jx := (ix v2)) rfl rfl ?_
    refine G_iast h dX5_copyFrom_45 ((w_4_1 hE h_v0).2) g2 (jx := (ix v2)) rfl rfl ?_
    refine G_aload_n h dX5_copyFrom_46 (i := 0) rfl rfl rfl ?_
    refine gf_X5_18 h hE dX5_copyFrom_47 h_v0 rfl ?_
    refine G_iload_n h dX5_copyFrom_50 (i := 2) rfl rfl rfl ?_
    refine G_aload_n h dX5_copyFrom_51 (i := 1) rfl rfl rfl ?_
    refine gf_X5_18 h hE dX5_copyFrom_52 h_v1 rfl ?_
    refine G_iload_n h dX5_copyFrom_55 (i := 2) rfl rfl rfl ?_
    refine G_iald h dX5_copyFrom_56 ((w_4_2 hE h_v1).2) g2 (jx := (ix v2)) rfl rfl ?_
    refine G_iast h dX5_copyFrom_57 ((w_4_2 hE h_v0).2) g2 (jx := (ix v2)) rfl rfl ?_
    refine G_nmM (fun M3 hM3 => ?_)
    have hf := nm_eq hM3 hf
    refine G_iinc2 h dX5_copyFrom_58 rfl ki_1 (by decide) (L' := [some (.ref v0), some (.ref v1), some (.int (v2 + 1))]) rfl rfl ?_
    refine G_goto h dX5_copyFrom_61 (tgt := 28) (by decide) ?_
    exact hk28 _ _ _ _ h_v0 h_v1 hf
def f_X5_copyFrom_L28 (E : Env1) : Nat → Mem → Nat → Nat → Int32 → (Option (Mem))
  | 0 => fun _ _ _ _ => none
  | n + 1 => b_X5_copyFrom_L28 E (f_X5_copyFrom_L28 E n)
theorem o_X5_copyFrom_L28 {X : Ctx} {l0 : Launch} {E : Env1} (h : Cx X l0 E RX5 cX5_copyFrom none 3 rm_X5_copyFrom) (hE : WF E) {M' : Mem} (hR : RetV X E cX5_copyFrom M') : ∀ (n : Nat) (M : Mem) (v0 : Nat) (v1 : Nat) (v2 : Int32), isK E v0 4 → isK E v1 4 → f_X5_copyFrom_L28 E n M v0 v1 v2 = some (M') → G X E (0, 0) 28 [some (.ref v0), some (.ref v1), some (.int v2)] [] M := by
  intro n
  induction n with
  | zero =>
    intro _ _ _ _ a0 a1 hf
    have h0 : (none : Option (Mem)) = some (M') := hf
    cases h0
  | succ n ih =>
    intro _ _ _ _ a0 a1 hf
    exact ob_X5_copyFrom_L28 h hE hR  ih a0 a1 hf
def b_X5_copyFrom_L2 (E : Env1) (k2 : Mem → Nat → Nat → Int32 → (Option (Mem))) (M : Mem) (v0 : Nat) (v1 : Nat) (v2 : Int32) : Option (Mem) :=
  if (8 : Int32) ≤ v2 then (f_X5_copyFrom_L28 E FU M v0 v1 (0 : Int32))
  else (gd v2 8 (k2 (wi M (rr E v0 0) (ix v2) (mi M (rr E v1 0) (ix v2))) v0 v1 (v2 + 1)))
set_option maxRecDepth 100000 in
set_option maxHeartbeats 4000000 in
theorem ob_X5_copyFrom_L2 {X : Ctx} {l0 : Launch} {E : Env1} (h : Cx X l0 E RX5 cX5_copyFrom none 3 rm_X5_copyFrom) (hE : WF E) {M' : Mem} (hR : RetV X E cX5_copyFrom M') {k2 : Mem → Nat → Nat → Int32 → (Option (Mem))} (hk2 : ∀ (M : Mem) (v0 : Nat) (v1 : Nat) (v2 : Int32), isK E v0 4 → isK E v1 4 → k2 M v0 v1 v2 = some (M') → G X E (0, 0) 2 [some (.ref v0), some (.ref v1), some (.int v2)] [] M) {M : Mem} {v0 : Nat} {v1 : Nat} {v2 : Int32} (h_v0 : isK E v0 4) (h_v1 : isK E v1 4) (hf : b_X5_copyFrom_L2 E k2 M v0 v1 v2 = some (M')) : G X E (0, 0) 2 [some (.ref v0), some (.ref v1), some (.int v2)] [] M := by
  unfold b_X5_copyFrom_L2 at hf
  refine G_iload_n h dX5_copyFrom_2 (i := 2) rfl rfl rfl ?_
  refine G_bipush h dX5_copyFrom_3 kb_8 rfl ?_
  refine G_icmp_ge h dX5_copyFrom_5 (tgt := 26) (by decide) rfl (fun c1 => ?_) (fun c1 => ?_)
  · have hf := it_t c1 hf
    refine G_iconst h dX5_copyFrom_26 ki_0 rfl ?_
    refine G_istore_n h dX5_copyFrom_27 (i := 2) rfl (by decide) (L' := [some (.ref v0), some (.ref v1), some (.int (0 : Int32))]) rfl rfl ?_
    exact o_X5_copyFrom_L28 h hE hR  FU _ _ _ _ h_v0 h_v1 hf
  · have hf := it_f c1 hf
    refine G_aload_n h dX5_copyFrom_8 (i := 0) rfl rfl rfl ?_
    refine gf_X5_9 h hE dX5_copyFrom_9 h_v0 rfl ?_
    refine G_iload_n h dX5_copyFrom_12 (i := 2) rfl rfl rfl ?_
    refine G_aload_n h dX5_copyFrom_13 (i := 1) rfl rfl rfl ?_
    refine gf_X5_9 h hE dX5_copyFrom_14 h_v1 rfl ?_
    refine G_iload_n h dX5_copyFrom_17 (i := 2) rfl rfl rfl ?_
    obtain ⟨g2, hf⟩ := gd_some hf
    refine G_iald h dX5_copyFrom_18 ((w_4_0 hE h_v1).2) g2 (jx := (ix v2)) rfl rfl ?_
    refine G_iast h dX5_copyFrom_19 ((w_4_0 hE h_v0).2) g2 (jx := (ix v2)) rfl rfl ?_
    refine G_iinc2 h dX5_copyFrom_20 rfl ki_1 (by decide) (L' := [some (.ref v0), some (.ref v1), some (.int (v2 + 1))]) rfl rfl ?_
    refine G_goto h dX5_copyFrom_23 (tgt := 2) (by decide) ?_
    exact hk2 _ _ _ _ h_v0 h_v1 hf
def f_X5_copyFrom_L2 (E : Env1) : Nat → Mem → Nat → Nat → Int32 → (Option (Mem))
  | 0 => fun _ _ _ _ => none
  | n + 1 => b_X5_copyFrom_L2 E (f_X5_copyFrom_L2 E n)
theorem o_X5_copyFrom_L2 {X : Ctx} {l0 : Launch} {E : Env1} (h : Cx X l0 E RX5 cX5_copyFrom none 3 rm_X5_copyFrom) (hE : WF E) {M' : Mem} (hR : RetV X E cX5_copyFrom M') : ∀ (n : Nat) (M : Mem) (v0 : Nat) (v1 : Nat) (v2 : Int32), isK E v0 4 → isK E v1 4 → f_X5_copyFrom_L2 E n M v0 v1 v2 = some (M') → G X E (0, 0) 2 [some (.ref v0), some (.ref v1), some (.int v2)] [] M := by
  intro n
  induction n with
  | zero =>
    intro _ _ _ _ a0 a1 hf
    have h0 : (none : Option (Mem)) = some (M') := hf
    cases h0
  | succ n ih =>
    intro _ _ _ _ a0 a1 hf
    exact ob_X5_copyFrom_L2 h hE hR  ih a0 a1 hf
def f_X5_copyFrom (E : Env1) (M : Mem) (v0 : Nat) (v1 : Nat) : Option (Mem) :=
  f_X5_copyFrom_L2 E FU M v0 v1 (0 : Int32)
set_option maxRecDepth 100000 in
set_option maxHeartbeats 4000000 in
theorem ok_X5_copyFrom {E : Env1} (hE : WF E) (l0 : Launch) {M : Mem} {M' : Mem} {v0 : Nat} {v1 : Nat} (h0 : isK E v0 4) (h1 : isK E v1 4) (hf : f_X5_copyFrom E M v0 v1 = some (M')) : Met l0 yX5_copyFrom (wsA yX5_copyFrom cX5_copyFrom 3 none) rm_X5_copyFrom (CP E M [.ref v0, .ref v1]) (CQv E M') 0 0 (eA E) := by
  unfold f_X5_copyFrom at hf
  refine mtV l0 (by decide +kernel) (Nat.le_of_ble_eq_true rfl) (L0 := [some (.ref v0), some (.ref v1), none]) rfl (fun X h hR => ?_)
  refine G_iconst h dX5_copyFrom_0 ki_0 rfl ?_
  refine G_istore_n h dX5_copyFrom_1 (i := 2) rfl (by decide) (L' := [some (.ref v0), some (.ref v1), some (.int (0 : Int32))]) rfl rfl ?_
  exact o_X5_copyFrom_L2 h hE hR  FU _ _ _ _ h0 h1 hf
def rm_X4_copyFrom : Room := { frames := 0, cells := 0, slots := 0, locals := 0 }
def b_X4_copyFrom_L10 (E : Env1) (k10 : Mem → Nat → Nat → Int32 → (Option (Mem))) (M : Mem) (v0 : Nat) (v1 : Nat) (v2 : Int32) : Option (Mem) :=
  if (24 : Int32) ≤ v2 then (some M)
  else (gd v2 24 (k10 (wi M (rr E v0 1) (ix v2) (mi M (rr E v1 1) (ix v2))) v0 v1 (v2 + 1)))
set_option maxRecDepth 100000 in
set_option maxHeartbeats 4000000 in
theorem ob_X4_copyFrom_L10 {X : Ctx} {l0 : Launch} {E : Env1} (h : Cx X l0 E RX4 cX4_copyFrom none 3 rm_X4_copyFrom) (hE : WF E) {M' : Mem} (hR : RetV X E cX4_copyFrom M') {k10 : Mem → Nat → Nat → Int32 → (Option (Mem))} (hk10 : ∀ (M : Mem) (v0 : Nat) (v1 : Nat) (v2 : Int32), isK E v0 3 → isK E v1 3 → k10 M v0 v1 v2 = some (M') → G X E (0, 0) 10 [some (.ref v0), some (.ref v1), some (.int v2)] [] M) {M : Mem} {v0 : Nat} {v1 : Nat} {v2 : Int32} (h_v0 : isK E v0 3) (h_v1 : isK E v1 3) (hf : b_X4_copyFrom_L10 E k10 M v0 v1 v2 = some (M')) : G X E (0, 0) 10 [some (.ref v0), some (.ref v1), some (.int v2)] [] M := by
  unfold b_X4_copyFrom_L10 at hf
  refine G_iload_n h dX4_copyFrom_10 (i := 2) rfl rfl rfl ?_
  refine G_aload_n h dX4_copyFrom_11 (i := 0) rfl rfl rfl ?_
  refine gf_X4_15 h hE dX4_copyFrom_12 h_v0 rfl ?_
  refine G_alen h dX4_copyFrom_15 ((w_3_1 hE h_v0).2) (v := (24 : Int32)) rfl rfl ?_
  refine G_icmp_ge h dX4_copyFrom_16 (tgt := 37) (by decide) rfl (fun c1 => ?_) (fun c1 => ?_)
  · have hf := it_t c1 hf
    exact pwV hR dX4_copyFrom_37 hf
  · have hf := it_f c1 hf
    refine G_aload_n h dX4_copyFrom_19 (i := 0) rfl rfl rfl ?_
    refine gf_X4_15 h hE dX4_copyFrom_20 h_v0 rfl ?_
    refine G_iload_n h dX4_copyFrom_23 (i := 2) rfl rfl rfl ?_
    refine G_aload_n h dX4_copyFrom_24 (i := 1) rfl rfl rfl ?_
    refine gf_X4_15 h hE dX4_copyFrom_25 h_v1 rfl ?_
    refine G_iload_n h dX4_copyFrom_28 (i := 2) rfl rfl rfl ?_
    obtain ⟨g2, hf⟩ := gd_some hf
    refine G_iald h dX4_copyFrom_29 ((w_3_1 hE h_v1).2) g2 (jx := (ix v2)) rfl rfl ?_
    refine G_iast h dX4_copyFrom_30 ((w_3_1 hE h_v0).2) g2 (jx := (ix v2)) rfl rfl ?_
    refine G_iinc2 h dX4_copyFrom_31 rfl ki_1 (by decide) (L' := [some (.ref v0), some (.ref v1), some (.int (v2 + 1))]) rfl rfl ?_
    refine G_goto h dX4_copyFrom_34 (tgt := 10) (by decide) ?_
    exact hk10 _ _ _ _ h_v0 h_v1 hf
def f_X4_copyFrom_L10 (E : Env1) : Nat → Mem → Nat → Nat → Int32 → (Option (Mem))
  | 0 => fun _ _ _ _ => none
  | n + 1 => b_X4_copyFrom_L10 E (f_X4_copyFrom_L10 E n)
theorem o_X4_copyFrom_L10 {X : Ctx} {l0 : Launch} {E : Env1} (h : Cx X l0 E RX4 cX4_copyFrom none 3 rm_X4_copyFrom) (hE : WF E) {M' : Mem} (hR : RetV X E cX4_copyFrom M') : ∀ (n : Nat) (M : Mem) (v0 : Nat) (v1 : Nat) (v2 : Int32), isK E v0 3 → isK E v1 3 → f_X4_copyFrom_L10 E n M v0 v1 v2 = some (M') → G X E (0, 0) 10 [some (.ref v0), some (.ref v1), some (.int v2)] [] M := by
  intro n
  induction n with
  | zero =>
    intro _ _ _ _ a0 a1 hf
    have h0 : (none : Option (Mem)) = some (M') := hf
    cases h0
  | succ n ih =>
    intro _ _ _ _ a0 a1 hf
    exact ob_X4_copyFrom_L10 h hE hR  ih a0 a1 hf
def f_X4_copyFrom (E : Env1) (M : Mem) (v0 : Nat) (v1 : Nat) : Option (Mem) :=
  f_X4_copyFrom_L10 E FU (wi M v0 0 (mi M v1 0)) v0 v1 (0 : Int32)
set_option maxRecDepth 100000 in
set_option maxHeartbeats 4000000 in
theorem ok_X4_copyFrom {E : Env1} (hE : WF E) (l0 : Launch) {M : Mem} {M' : Mem} {v0 : Nat} {v1 : Nat} (h0 : isK E v0 3) (h1 : isK E v1 3) (hf : f_X4_copyFrom E M v0 v1 = some (M')) : Met l0 yX4_copyFrom (wsA yX4_copyFrom cX4_copyFrom 3 none) rm_X4_copyFrom (CP E M [.ref v0, .ref v1]) (CQv E M') 0 0 (eA E) := by
  unfold f_X4_copyFrom at hf
  refine mtV l0 (by decide +kernel) (Nat.le_of_ble_eq_true rfl) (L0 := [some (.ref v0), some (.ref v1), none]) rfl (fun X h hR => ?_)
  refine G_aload_n h dX4_copyFrom_0 (i := 0) rfl rfl rfl ?_
  refine G_aload_n h dX4_copyFrom_1 (i := 1) rfl rfl rfl ?_
  refine gf_X4_9 h dX4_copyFrom_2 h1 rfl ?_
  refine pf_X4_9 h dX4_copyFrom_5 h0 rfl ?_
  refine G_iconst h dX4_copyFrom_8 ki_0 rfl ?_
  refine G_istore_n h dX4_copyFrom_9 (i := 2) rfl (by decide) (L' := [some (.ref v0), some (.ref v1), some (.int (0 : Int32))]) rfl rfl ?_
  exact o_X4_copyFrom_L10 h hE hR  FU _ _ _ _ h0 h1 hf
def rm_X5_isKnown : Room := { frames := 0, cells := 0, slots := 0, locals := 0 }
def f_X5_isKnown (E : Env1) (M : Mem) (v0 : Nat) (v1 : Int32) (v2 : Int32) : Option (Int32) :=
  gd v1 6 (some (if (((mi M (rr E v0 1) (ix v1)) >>> (v2 &&& 31)) &&& (1 : Int32)) = (1 : Int32) then (1 : Int32) else (0 : Int32)))
set_option maxRecDepth 100000 in
set_option maxHeartbeats 4000000 in
theorem ok_X5_isKnown {E : Env1} (hE : WF E) (l0 : Launch) {M : Mem} {v0 : Nat} {v1 : Int32} {v2 : Int32} {r : Int32} (h0 : isK E v0 4) (hf : f_X5_isKnown E M v0 v1 v2 = some r) : Met l0 yX5_isKnown (wsA yX5_isKnown cX5_isKnown 3 (some .boolean)) rm_X5_isKnown (CP E M [.ref v0, .int v1, .int v2]) (CQz E r M) 0 0 (eA E) := by
  unfold f_X5_isKnown at hf
  refine mtZ l0 (by decide +kernel) (Nat.le_of_ble_eq_true rfl) (L0 := [some (.ref v0), some (.int v1), some (.int v2)]) rfl (fun X h hR => ?_)
  refine G_aload_n h dX5_isKnown_0 (i := 0) rfl rfl rfl ?_
  refine gf_X5_15 h hE dX5_isKnown_1 h0 rfl ?_
  refine G_iload_n h dX5_isKnown_4 (i := 1) rfl rfl rfl ?_
  obtain ⟨g1, hf⟩ := gd_some hf
  refine G_iald h dX5_isKnown_5 ((w_4_1 hE h0).2) g1 (jx := (ix v1)) rfl rfl ?_
  refine G_iload_n h dX5_isKnown_6 (i := 2) rfl rfl rfl ?_
  refine G_ishr h dX5_isKnown_7 rfl ?_
  refine G_iconst h dX5_isKnown_8 ki_1 rfl ?_
  refine G_iand h dX5_isKnown_9 rfl ?_
  refine G_iconst h dX5_isKnown_10 ki_1 rfl ?_
  have hJ : G X E (0, 0) 19 [some (.ref v0), some (.int v1), some (.int v2)] [.int (if (((mi M (rr E v0 1) (ix v1)) >>> (v2 &&& 31)) &&& (1 : Int32)) = (1 : Int32) then (1 : Int32) else (0 : Int32))] M := by
    exact roZ hR dX5_isKnown_19 (ite_01 (Or.inr rfl) (Or.inl rfl)) hf
  refine G_icmp_ne h dX5_isKnown_11 (tgt := 18) (by decide) rfl (fun c2 => ?_) (fun c2 => ?_)
  · refine G_iconst h dX5_isKnown_18 ki_0 rfl ?_
    exact G_ifn c2 hJ
  · refine G_iconst h dX5_isKnown_14 ki_1 rfl ?_
    refine G_goto h dX5_isKnown_15 (tgt := 19) (by decide) ?_
    exact G_ifp c2 hJ
def rm_X8_within : Room := { frames := 0, cells := 0, slots := 0, locals := 0 }
def f_X8_within (E : Env1) (M : Mem) (v0 : Int32) (v1 : Int32) (v2 : Int32) : Int32 :=
  if v0 < v1 then (0 : Int32) else if v2 < v0 then (0 : Int32) else (1 : Int32)
set_option maxRecDepth 100000 in
set_option maxHeartbeats 4000000 in
theorem ok_X8_within {E : Env1} (hE : WF E) (l0 : Launch) {M : Mem} {v0 : Int32} {v1 : Int32} {v2 : Int32} {r : Int32}  (hf : f_X8_within E M v0 v1 v2 = r) : Met l0 yX8_within (wsA yX8_within cX8_within 3 (some .boolean)) rm_X8_within (CP E M [.int v0, .int v1, .int v2]) (CQz E r M) 0 0 (eA E) := by
  unfold f_X8_within at hf
  refine mtZ l0 (by decide +kernel) (Nat.le_of_ble_eq_true rfl) (L0 := [some (.int v0), some (.int v1), some (.int v2)]) rfl (fun X h hR => ?_)
  refine G_iload_n h dX8_within_0 (i := 1) rfl rfl rfl ?_
  refine G_iload_n h dX8_within_1 (i := 0) rfl rfl rfl ?_
  have hJ : G X E (0, 0) 15 [some (.int v0), some (.int v1), some (.int v2)] [.int (if v0 < v1 then (0 : Int32) else if v2 < v0 then (0 : Int32) else (1 : Int32))] M := by
    exact toZ hR dX8_within_15 (ite_01 (Or.inl rfl) (ite_01 (Or.inl rfl) (Or.inr rfl))) hf
  refine G_icmp_gt h dX8_within_2 (tgt := 14) (by decide) rfl (fun c1 => ?_) (fun c1 => ?_)
  · refine G_iconst h dX8_within_14 ki_0 rfl ?_
    exact G_ifp c1 hJ
  · refine G_iload_n h dX8_within_5 (i := 0) rfl rfl rfl ?_
    refine G_iload_n h dX8_within_6 (i := 2) rfl rfl rfl ?_
    refine G_icmp_gt h dX8_within_7 (tgt := 14) (by decide) rfl (fun c2 => ?_) (fun c2 => ?_)
    · refine G_iconst h dX8_within_14 ki_0 rfl ?_
      exact G_ifp c2 (G_ifn c1 hJ)
    · refine G_iconst h dX8_within_10 ki_1 rfl ?_
      refine G_goto h dX8_within_11 (tgt := 15) (by decide) ?_
      exact G_ifn c2 (G_ifn c1 hJ)
def rm_X4_cell : Room := { frames := 1, cells := 0, slots := 0, locals := 22 }
def f_X4_cell (E : Env1) (M : Mem) (v0 : Nat) (v1 : Int32) (v2 : Int32) : Option (Int32) :=
  if (f_X8_within E M ((v1 * (4 : Int32)) + v2) (0 : Int32) ((24 : Int32) - (1 : Int32))) = 0 then (some (0 : Int32))
  else (gd ((v1 * (4 : Int32)) + v2) 24 (some (mi M (rr E v0 1) (ix ((v1 * (4 : Int32)) + v2)))))
set_option maxRecDepth 100000 in
set_option maxHeartbeats 4000000 in
theorem ok_X4_cell {E : Env1} (hE : WF E) (l0 : Launch) {M : Mem} {v0 : Nat} {v1 : Int32} {v2 : Int32} {r : Int32} (h0 : isK E v0 3) (hf : f_X4_cell E M v0 v1 v2 = some r) : Met l0 yX4_cell (wsA yX4_cell cX4_cell 4 (some .int)) rm_X4_cell (CP E M [.ref v0, .int v1, .int v2]) (CQi E r M) 0 0 (eA E) := by
  unfold f_X4_cell at hf
  refine mtI l0 (by decide +kernel) (Nat.le_of_ble_eq_true rfl) (L0 := [some (.ref v0), some (.int v1), some (.int v2), none]) rfl (fun X h hR => ?_)
  refine G_iload_n h dX4_cell_0 (i := 1) rfl rfl rfl ?_
  refine G_iconst h dX4_cell_1 ki_4 rfl ?_
  refine G_imul h dX4_cell_2 rfl ?_
  refine G_iload_n h dX4_cell_3 (i := 2) rfl rfl rfl ?_
  refine G_iadd h dX4_cell_4 rfl ?_
  refine G_istore_n h dX4_cell_5 (i := 3) rfl (by decide) (L' := [some (.ref v0), some (.int v1), some (.int v2), some (.int ((v1 * (4 : Int32)) + v2))]) rfl rfl ?_
  refine G_iload_n h dX4_cell_6 (i := 3) rfl rfl rfl ?_
  refine G_iconst h dX4_cell_7 ki_0 rfl ?_
  refine G_aload_n h dX4_cell_8 (i := 0) rfl rfl rfl ?_
  refine gf_X4_15 h hE dX4_cell_9 h0 rfl ?_
  refine G_alen h dX4_cell_12 ((w_3_1 hE h0).2) (v := (24 : Int32)) rfl rfl ?_
  refine G_iconst h dX4_cell_13 ki_1 rfl ?_
  refine G_isub h dX4_cell_14 rfl ?_
  refine cl_X4_19 h (ok_X8_within hE _  (r := f_X8_within E M ((v1 * (4 : Int32)) + v2) (0 : Int32) ((24 : Int32) - (1 : Int32))) rfl) dX4_cell_15 (as := [.int ((v1 * (4 : Int32)) + v2), .int (0 : Int32), .int ((24 : Int32) - (1 : Int32))]) rfl rfl ⟨rfl, rfl, Nat.le_of_ble_eq_true rfl, Nat.le_of_ble_eq_true rfl⟩ rfl (Nat.le_of_ble_eq_true rfl) (fun z1 => ?_)
  refine G_if_eq h dX4_cell_18 (tgt := 30) (by decide) rfl (fun c2 => ?_) (fun c2 => ?_)
  · have hf := it_t c2 hf
    refine G_iconst h dX4_cell_30 ki_0 rfl ?_
    exact roI hR dX4_cell_31 hf
  · have hf := it_f c2 hf
    refine G_aload_n h dX4_cell_21 (i := 0) rfl rfl rfl ?_
    refine gf_X4_15 h hE dX4_cell_22 h0 rfl ?_
    refine G_iload_n h dX4_cell_25 (i := 3) rfl rfl rfl ?_
    obtain ⟨g3, hf⟩ := gd_some hf
    refine G_iald h dX4_cell_26 ((w_3_1 hE h0).2) g3 (jx := (ix ((v1 * (4 : Int32)) + v2))) rfl rfl ?_
    refine G_goto h dX4_cell_27 (tgt := 31) (by decide) ?_
    exact roI hR dX4_cell_31 hf
def rm_X4_digestOn : Room := { frames := 2, cells := 0, slots := 0, locals := 45 }
def b_X4_digestOn_L18 (E : Env1) (M : Mem) (k6 : Nat → Int32 → Int64 → Int32 → (Option (Int64))) (k18 : Nat → Int32 → Int64 → Int32 → Int32 → (Option (Int64))) (v0 : Nat) (v3 : Int32) (v4 : Int64) (v6 : Int32) (v7 : Int32) : Option (Int64) :=
  if v3 ≤ v7 then (k6 v0 v3 v4 (v6 + 1))
  else (
    (f_X4_cell E M v0 v6 v7).bind fun x2 =>
    nm (((31 : Int64) * v4) + x2.toInt64) fun x3 =>
    k18 v0 v3 x3 v6 (v7 + 1))
set_option maxRecDepth 100000 in
set_option maxHeartbeats 4000000 in
theorem ob_X4_digestOn_L18 {X : Ctx} {l0 : Launch} {E : Env1} (h : Cx X l0 E RX4 cX4_digestOn (some .long) 8 rm_X4_digestOn) (hE : WF E) {M : Mem} {r : Int64} (hR : RetL X E cX4_digestOn r M) {k6 : Nat → Int32 → Int64 → Int32 → (Option (Int64))} (hk6 : ∀ (v0 : Nat) (v3 : Int32) (v4 : Int64) (v6 : Int32), isK E v0 3 → k6 v0 v3 v4 v6 = some r → G X E (0, 0) 6 [some (.ref v0), none, none, some (.int v3), some (.long v4), none, some (.int v6), none] [] M) {k18 : Nat → Int32 → Int64 → Int32 → Int32 → (Option (Int64))} (hk18 : ∀ (v0 : Nat) (v3 : Int32) (v4 : Int64) (v6 : Int32) (v7 : Int32), isK E v0 3 → k18 v0 v3 v4 v6 v7 = some r → G X E (0, 0) 18 [some (.ref v0), none, none, some (.int v3), some (.long v4), none, some (.int v6), some (.int v7)] [] M) {v0 : Nat} {v3 : Int32} {v4 : Int64} {v6 : Int32} {v7 : Int32} (h_v0 : isK E v0 3) (hf : b_X4_digestOn_L18 E M k6 k18 v0 v3 v4 v6 v7 = some r) : G X E (0, 0) 18 [some (.ref v0), none, none, some (.int v3), some (.long v4), none, some (.int v6), some (.int v7)] [] M := by
  unfold b_X4_digestOn_L18 at hf
  refine G_iload h dX4_digestOn_18 rfl rfl ?_
  refine G_iload_n h dX4_digestOn_20 (i := 3) rfl rfl rfl ?_
  refine G_icmp_ge h dX4_digestOn_21 (tgt := 48) (by decide) rfl (fun c1 => ?_) (fun c1 => ?_)
  · have hf := it_t c1 hf
    refine G_iinc2 h dX4_digestOn_48 rfl ki_1 (by decide) (L' := [some (.ref v0), none, none, some (.int v3), some (.long v4), none, some (.int (v6 + 1)), some (.int v7)]) rfl rfl ?_
    refine G_goto h dX4_digestOn_51 (tgt := 6) (by decide) ?_
    refine G_mskL [true, false, false, true, true, false, true, false] (L' := [some (.ref v0), none, none, some (.int v3), some (.long v4), none, some (.int (v6 + 1)), none]) rfl ?_
    exact hk6 _ _ _ _ h_v0 hf
  · have hf := it_f c1 hf
    refine G_ldc2 h q919 dX4_digestOn_24 rfl ?_
    refine G_lload h dX4_digestOn_27 rfl rfl ?_
    refine G_lmul h dX4_digestOn_29 rfl ?_
    refine G_aload_n h dX4_digestOn_30 (i := 0) rfl rfl rfl ?_
    refine G_iload h dX4_digestOn_31 rfl rfl ?_
    refine G_iload h dX4_digestOn_33 rfl rfl ?_
    obtain ⟨x2, hx2, hf⟩ := bd hf
    refine cl_X4_25 h (ok_X4_cell hE _ h_v0 hx2) dX4_digestOn_35 h_v0 (as := [.int v6, .int v7]) rfl rfl ⟨rfl, rfl, Nat.le_of_ble_eq_true rfl, Nat.le_of_ble_eq_true rfl⟩ rfl (Nat.le_of_ble_eq_true rfl) ?_
    refine G_i2l h dX4_digestOn_38 rfl ?_
    refine G_ladd h dX4_digestOn_39 rfl ?_
    refine G_nml (fun x3 hx3 => ?_)
    have hf := nm_eq hx3 hf
    refine G_lstore h dX4_digestOn_40  (by decide) (L' := [some (.ref v0), none, none, some (.int v3), some (.long x3), none, some (.int v6), some (.int v7)]) rfl rfl ?_
    refine G_iinc2 h dX4_digestOn_42 rfl ki_1 (by decide) (L' := [some (.ref v0), none, none, some (.int v3), some (.long x3), none, some (.int v6), some (.int (v7 + 1))]) rfl rfl ?_
    refine G_goto h dX4_digestOn_45 (tgt := 18) (by decide) ?_
    exact hk18 _ _ _ _ _ h_v0 hf
def f_X4_digestOn_L18 (E : Env1) (M : Mem) (k6 : Nat → Int32 → Int64 → Int32 → (Option (Int64))) : Nat → Nat → Int32 → Int64 → Int32 → Int32 → (Option (Int64))
  | 0 => fun _ _ _ _ _ => none
  | n + 1 => b_X4_digestOn_L18 E M k6 (f_X4_digestOn_L18 E M k6 n)
theorem o_X4_digestOn_L18 {X : Ctx} {l0 : Launch} {E : Env1} (h : Cx X l0 E RX4 cX4_digestOn (some .long) 8 rm_X4_digestOn) (hE : WF E) {M : Mem} {r : Int64} (hR : RetL X E cX4_digestOn r M) {k6 : Nat → Int32 → Int64 → Int32 → (Option (Int64))} (hk6 : ∀ (v0 : Nat) (v3 : Int32) (v4 : Int64) (v6 : Int32), isK E v0 3 → k6 v0 v3 v4 v6 = some r → G X E (0, 0) 6 [some (.ref v0), none, none, some (.int v3), some (.long v4), none, some (.int v6), none] [] M) : ∀ (n : Nat) (v0 : Nat) (v3 : Int32) (v4 : Int64) (v6 : Int32) (v7 : Int32), isK E v0 3 → f_X4_digestOn_L18 E M k6 n v0 v3 v4 v6 v7 = some r → G X E (0, 0) 18 [some (.ref v0), none, none, some (.int v3), some (.long v4), none, some (.int v6), some (.int v7)] [] M := by
  intro n
  induction n with
  | zero =>
    intro _ _ _ _ _ a0 hf
    have h0 : (none : Option (Int64)) = some r := hf
    cases h0
  | succ n ih =>
    intro _ _ _ _ _ a0 hf
    exact ob_X4_digestOn_L18 h hE hR hk6 ih a0 hf
def b_X4_digestOn_L6 (E : Env1) (M : Mem) (k6 : Nat → Int32 → Int64 → Int32 → (Option (Int64))) (v0 : Nat) (v3 : Int32) (v4 : Int64) (v6 : Int32) : Option (Int64) :=
  if (mi M v0 0) ≤ v6 then (some v4)
  else (f_X4_digestOn_L18 E M k6 FU v0 v3 v4 v6 (0 : Int32))
set_option maxRecDepth 100000 in
set_option maxHeartbeats 4000000 in
theorem ob_X4_digestOn_L6 {X : Ctx} {l0 : Launch} {E : Env1} (h : Cx X l0 E RX4 cX4_digestOn (some .long) 8 rm_X4_digestOn) (hE : WF E) {M : Mem} {r : Int64} (hR : RetL X E cX4_digestOn r M) {k6 : Nat → Int32 → Int64 → Int32 → (Option (Int64))} (hk6 : ∀ (v0 : Nat) (v3 : Int32) (v4 : Int64) (v6 : Int32), isK E v0 3 → k6 v0 v3 v4 v6 = some r → G X E (0, 0) 6 [some (.ref v0), none, none, some (.int v3), some (.long v4), none, some (.int v6), none] [] M) {v0 : Nat} {v3 : Int32} {v4 : Int64} {v6 : Int32} (h_v0 : isK E v0 3) (hf : b_X4_digestOn_L6 E M k6 v0 v3 v4 v6 = some r) : G X E (0, 0) 6 [some (.ref v0), none, none, some (.int v3), some (.long v4), none, some (.int v6), none] [] M := by
  unfold b_X4_digestOn_L6 at hf
  refine G_iload h dX4_digestOn_6 rfl rfl ?_
  refine G_aload_n h dX4_digestOn_8 (i := 0) rfl rfl rfl ?_
  refine gf_X4_9 h dX4_digestOn_9 h_v0 rfl ?_
  refine G_icmp_ge h dX4_digestOn_12 (tgt := 54) (by decide) rfl (fun c1 => ?_) (fun c1 => ?_)
  · have hf := it_t c1 hf
    refine G_lload h dX4_digestOn_54 rfl rfl ?_
    exact roL hR dX4_digestOn_56 hf
  · have hf := it_f c1 hf
    refine G_iconst h dX4_digestOn_15 ki_0 rfl ?_
    refine G_istore h dX4_digestOn_16  (by decide) (L' := [some (.ref v0), none, none, some (.int v3), some (.long v4), none, some (.int v6), some (.int (0 : Int32))]) rfl rfl ?_
    exact o_X4_digestOn_L18 h hE hR hk6 FU _ _ _ _ _ h_v0 hf
def f_X4_digestOn_L6 (E : Env1) (M : Mem) : Nat → Nat → Int32 → Int64 → Int32 → (Option (Int64))
  | 0 => fun _ _ _ _ => none
  | n + 1 => b_X4_digestOn_L6 E M (f_X4_digestOn_L6 E M n)
theorem o_X4_digestOn_L6 {X : Ctx} {l0 : Launch} {E : Env1} (h : Cx X l0 E RX4 cX4_digestOn (some .long) 8 rm_X4_digestOn) (hE : WF E) {M : Mem} {r : Int64} (hR : RetL X E cX4_digestOn r M) : ∀ (n : Nat) (v0 : Nat) (v3 : Int32) (v4 : Int64) (v6 : Int32), isK E v0 3 → f_X4_digestOn_L6 E M n v0 v3 v4 v6 = some r → G X E (0, 0) 6 [some (.ref v0), none, none, some (.int v3), some (.long v4), none, some (.int v6), none] [] M := by
  intro n
  induction n with
  | zero =>
    intro _ _ _ _ a0 hf
    have h0 : (none : Option (Int64)) = some r := hf
    cases h0
  | succ n ih =>
    intro _ _ _ _ a0 hf
    exact ob_X4_digestOn_L6 h hE hR  ih a0 hf
def f_X4_digestOn (E : Env1) (M : Mem) (v0 : Nat) (v1 : Int64) (v3 : Int32) : Option (Int64) :=
  f_X4_digestOn_L6 E M FU v0 v3 v1 (0 : Int32)
set_option maxRecDepth 100000 in
set_option maxHeartbeats 4000000 in
theorem ok_X4_digestOn {E : Env1} (hE : WF E) (l0 : Launch) {M : Mem} {v0 : Nat} {v1 : Int64} {v3 : Int32} {r : Int64} (h0 : isK E v0 3) (hf : f_X4_digestOn E M v0 v1 v3 = some r) : Met l0 yX4_digestOn (wsA yX4_digestOn cX4_digestOn 8 (some .long)) rm_X4_digestOn (CP E M [.ref v0, .long v1, .int v3]) (CQl E r M) 0 0 (eA E) := by
  unfold f_X4_digestOn at hf
  refine mtL l0 (by decide +kernel) (Nat.le_of_ble_eq_true rfl) (L0 := [some (.ref v0), some (.long v1), none, some (.int v3), none, none, none, none]) rfl (fun X h hR => ?_)
  refine G_lload_n h dX4_digestOn_0 (i := 1) rfl rfl rfl ?_
  refine G_lstore h dX4_digestOn_1  (by decide) (L' := [some (.ref v0), some (.long v1), none, some (.int v3), some (.long v1), none, none, none]) rfl rfl ?_
  refine G_iconst h dX4_digestOn_3 ki_0 rfl ?_
  refine G_istore h dX4_digestOn_4  (by decide) (L' := [some (.ref v0), some (.long v1), none, some (.int v3), some (.long v1), none, some (.int (0 : Int32)), none]) rfl rfl ?_
  refine G_mskL [true, false, false, true, true, false, true, false] (L' := [some (.ref v0), none, none, some (.int v3), some (.long v1), none, some (.int (0 : Int32)), none]) rfl ?_
  exact o_X4_digestOn_L6 h hE hR  FU _ _ _ _ h0 hf
def rm_X5_reset : Room := { frames := 0, cells := 0, slots := 0, locals := 0 }
def b_X5_reset_L23 (E : Env1) (k23 : Mem → Nat → Int32 → (Option (Mem))) (M : Mem) (v0 : Nat) (v1 : Int32) : Option (Mem) :=
  if (6 : Int32) ≤ v1 then (some (wi (wi M v0 3 (0 : Int32)) v0 4 (0 : Int32)))
  else (gd v1 6 (k23 (wi (wi M (rr E v0 1) (ix v1) (0 : Int32)) (rr E v0 2) (ix v1) (-1 : Int32)) v0 (v1 + 1)))
set_option maxRecDepth 100000 in
set_option maxHeartbeats 4000000 in
theorem ob_X5_reset_L23 {X : Ctx} {l0 : Launch} {E : Env1} (h : Cx X l0 E RX5 cX5_reset none 2 rm_X5_reset) (hE : WF E) {M' : Mem} (hR : RetV X E cX5_reset M') {k23 : Mem → Nat → Int32 → (Option (Mem))} (hk23 : ∀ (M : Mem) (v0 : Nat) (v1 : Int32), isK E v0 4 → k23 M v0 v1 = some (M') → G X E (0, 0) 23 [some (.ref v0), some (.int v1)] [] M) {M : Mem} {v0 : Nat} {v1 : Int32} (h_v0 : isK E v0 4) (hf : b_X5_reset_L23 E k23 M v0 v1 = some (M')) : G X E (0, 0) 23 [some (.ref v0), some (.int v1)] [] M := by
  unfold b_X5_reset_L23 at hf
  refine G_iload_n h dX5_reset_23 (i := 1) rfl rfl rfl ?_
  refine G_bipush h dX5_reset_24 kb_6 rfl ?_
  refine G_icmp_ge h dX5_reset_26 (tgt := 49) (by decide) rfl (fun c1 => ?_) (fun c1 => ?_)
  · have hf := it_t c1 hf
    refine G_aload_n h dX5_reset_49 (i := 0) rfl rfl rfl ?_
    refine G_iconst h dX5_reset_50 ki_0 rfl ?_
    refine pf_X5_26 h dX5_reset_51 h_v0 rfl ?_
    refine G_aload_n h dX5_reset_54 (i := 0) rfl rfl rfl ?_
    refine G_iconst h dX5_reset_55 ki_0 rfl ?_
    refine pf_X5_30 h dX5_reset_56 h_v0 rfl ?_
    exact pwV hR dX5_reset_59 hf
  · have hf := it_f c1 hf
    refine G_aload_n h dX5_reset_29 (i := 0) rfl rfl rfl ?_
    refine gf_X5_15 h hE dX5_reset_30 h_v0 rfl ?_
    refine G_iload_n h dX5_reset_33 (i := 1) rfl rfl rfl ?_
    refine G_iconst h dX5_reset_34 ki_0 rfl ?_
    obtain ⟨g2, hf⟩ := gd_some hf
    refine G_iast h dX5_reset_35 ((w_4_1 hE h_v0).2) g2 (jx := (ix v1)) rfl rfl ?_
    refine G_aload_n h dX5_reset_36 (i := 0) rfl rfl rfl ?_
    refine gf_X5_18 h hE dX5_reset_37 h_v0 rfl ?_
    refine G_iload_n h dX5_reset_40 (i := 1) rfl rfl rfl ?_
    refine G_iconst h dX5_reset_41 ki_m1 rfl ?_
    refine G_iast h dX5_reset_42 ((w_4_2 hE h_v0).2) g2 (jx := (ix v1)) rfl rfl ?_
    refine G_iinc2 h dX5_reset_43 rfl ki_1 (by decide) (L' := [some (.ref v0), some (.int (v1 + 1))]) rfl rfl ?_
    refine G_goto h dX5_reset_46 (tgt := 23) (by decide) ?_
    exact hk23 _ _ _ h_v0 hf
def f_X5_reset_L23 (E : Env1) : Nat → Mem → Nat → Int32 → (Option (Mem))
  | 0 => fun _ _ _ => none
  | n + 1 => b_X5_reset_L23 E (f_X5_reset_L23 E n)
theorem o_X5_reset_L23 {X : Ctx} {l0 : Launch} {E : Env1} (h : Cx X l0 E RX5 cX5_reset none 2 rm_X5_reset) (hE : WF E) {M' : Mem} (hR : RetV X E cX5_reset M') : ∀ (n : Nat) (M : Mem) (v0 : Nat) (v1 : Int32), isK E v0 4 → f_X5_reset_L23 E n M v0 v1 = some (M') → G X E (0, 0) 23 [some (.ref v0), some (.int v1)] [] M := by
  intro n
  induction n with
  | zero =>
    intro _ _ _ a0 hf
    have h0 : (none : Option (Mem)) = some (M') := hf
    cases h0
  | succ n ih =>
    intro _ _ _ a0 hf
    exact ob_X5_reset_L23 h hE hR  ih a0 hf
def b_X5_reset_L2 (E : Env1) (k2 : Mem → Nat → Int32 → (Option (Mem))) (M : Mem) (v0 : Nat) (v1 : Int32) : Option (Mem) :=
  if (8 : Int32) ≤ v1 then (f_X5_reset_L23 E FU M v0 (0 : Int32))
  else (gd v1 8 (k2 (wi M (rr E v0 0) (ix v1) (0 : Int32)) v0 (v1 + 1)))
set_option maxRecDepth 100000 in
set_option maxHeartbeats 4000000 in
theorem ob_X5_reset_L2 {X : Ctx} {l0 : Launch} {E : Env1} (h : Cx X l0 E RX5 cX5_reset none 2 rm_X5_reset) (hE : WF E) {M' : Mem} (hR : RetV X E cX5_reset M') {k2 : Mem → Nat → Int32 → (Option (Mem))} (hk2 : ∀ (M : Mem) (v0 : Nat) (v1 : Int32), isK E v0 4 → k2 M v0 v1 = some (M') → G X E (0, 0) 2 [some (.ref v0), some (.int v1)] [] M) {M : Mem} {v0 : Nat} {v1 : Int32} (h_v0 : isK E v0 4) (hf : b_X5_reset_L2 E k2 M v0 v1 = some (M')) : G X E (0, 0) 2 [some (.ref v0), some (.int v1)] [] M := by
  unfold b_X5_reset_L2 at hf
  refine G_iload_n h dX5_reset_2 (i := 1) rfl rfl rfl ?_
  refine G_bipush h dX5_reset_3 kb_8 rfl ?_
  refine G_icmp_ge h dX5_reset_5 (tgt := 21) (by decide) rfl (fun c1 => ?_) (fun c1 => ?_)
  · have hf := it_t c1 hf
    refine G_iconst h dX5_reset_21 ki_0 rfl ?_
    refine G_istore_n h dX5_reset_22 (i := 1) rfl (by decide) (L' := [some (.ref v0), some (.int (0 : Int32))]) rfl rfl ?_
    exact o_X5_reset_L23 h hE hR  FU _ _ _ h_v0 hf
  · have hf := it_f c1 hf
    refine G_aload_n h dX5_reset_8 (i := 0) rfl rfl rfl ?_
    refine gf_X5_9 h hE dX5_reset_9 h_v0 rfl ?_
    refine G_iload_n h dX5_reset_12 (i := 1) rfl rfl rfl ?_
    refine G_iconst h dX5_reset_13 ki_0 rfl ?_
    obtain ⟨g2, hf⟩ := gd_some hf
    refine G_iast h dX5_reset_14 ((w_4_0 hE h_v0).2) g2 (jx := (ix v1)) rfl rfl ?_
    refine G_iinc2 h dX5_reset_15 rfl ki_1 (by decide) (L' := [some (.ref v0), some (.int (v1 + 1))]) rfl rfl ?_
    refine G_goto h dX5_reset_18 (tgt := 2) (by decide) ?_
    exact hk2 _ _ _ h_v0 hf
def f_X5_reset_L2 (E : Env1) : Nat → Mem → Nat → Int32 → (Option (Mem))
  | 0 => fun _ _ _ => none
  | n + 1 => b_X5_reset_L2 E (f_X5_reset_L2 E n)
theorem o_X5_reset_L2 {X : Ctx} {l0 : Launch} {E : Env1} (h : Cx X l0 E RX5 cX5_reset none 2 rm_X5_reset) (hE : WF E) {M' : Mem} (hR : RetV X E cX5_reset M') : ∀ (n : Nat) (M : Mem) (v0 : Nat) (v1 : Int32), isK E v0 4 → f_X5_reset_L2 E n M v0 v1 = some (M') → G X E (0, 0) 2 [some (.ref v0), some (.int v1)] [] M := by
  intro n
  induction n with
  | zero =>
    intro _ _ _ a0 hf
    have h0 : (none : Option (Mem)) = some (M') := hf
    cases h0
  | succ n ih =>
    intro _ _ _ a0 hf
    exact ob_X5_reset_L2 h hE hR  ih a0 hf
def f_X5_reset (E : Env1) (M : Mem) (v0 : Nat) : Option (Mem) :=
  f_X5_reset_L2 E FU M v0 (0 : Int32)
set_option maxRecDepth 100000 in
set_option maxHeartbeats 4000000 in
theorem ok_X5_reset {E : Env1} (hE : WF E) (l0 : Launch) {M : Mem} {M' : Mem} {v0 : Nat} (h0 : isK E v0 4) (hf : f_X5_reset E M v0 = some (M')) : Met l0 yX5_reset (wsA yX5_reset cX5_reset 2 none) rm_X5_reset (CP E M [.ref v0]) (CQv E M') 0 0 (eA E) := by
  unfold f_X5_reset at hf
  refine mtV l0 (by decide +kernel) (Nat.le_of_ble_eq_true rfl) (L0 := [some (.ref v0), none]) rfl (fun X h hR => ?_)
  refine G_iconst h dX5_reset_0 ki_0 rfl ?_
  refine G_istore_n h dX5_reset_1 (i := 1) rfl (by decide) (L' := [some (.ref v0), some (.int (0 : Int32))]) rfl rfl ?_
  exact o_X5_reset_L2 h hE hR  FU _ _ _ h0 hf
def rm_X4_drop : Room := { frames := 0, cells := 0, slots := 0, locals := 0 }
def f_X4_drop (E : Env1) (M : Mem) (v0 : Nat) : Int32 × Mem :=
  (mi M v0 0, wi M v0 0 (0 : Int32))
set_option maxRecDepth 100000 in
set_option maxHeartbeats 4000000 in
theorem ok_X4_drop {E : Env1} (hE : WF E) (l0 : Launch) {M : Mem} {M' : Mem} {v0 : Nat} {r : Int32} (h0 : isK E v0 3) (hf : f_X4_drop E M v0 = (r, M')) : Met l0 yX4_drop (wsA yX4_drop cX4_drop 2 (some .int)) rm_X4_drop (CP E M [.ref v0]) (CQi E r M') 0 0 (eA E) := by
  unfold f_X4_drop at hf
  refine mtI l0 (by decide +kernel) (Nat.le_of_ble_eq_true rfl) (L0 := [some (.ref v0), none]) rfl (fun X h hR => ?_)
  refine G_aload_n h dX4_drop_0 (i := 0) rfl rfl rfl ?_
  refine gf_X4_9 h dX4_drop_1 h0 rfl ?_
  refine G_istore_n h dX4_drop_4 (i := 1) rfl (by decide) (L' := [some (.ref v0), some (.int (mi M v0 0))]) rfl rfl ?_
  refine G_aload_n h dX4_drop_5 (i := 0) rfl rfl rfl ?_
  refine G_iconst h dX4_drop_6 ki_0 rfl ?_
  refine pf_X4_9 h dX4_drop_7 h0 rfl ?_
  refine G_iload_n h dX4_drop_10 (i := 1) rfl rfl rfl ?_
  exact twI hR dX4_drop_11 hf
def rm_X5_knowers : Room := { frames := 1, cells := 0, slots := 0, locals := 22 }
def b_X5_knowers_L4 (E : Env1) (M : Mem) (k4 : Nat → Int32 → Int32 → Int32 → (Option (Int32))) (v0 : Nat) (v1 : Int32) (v2 : Int32) (v3 : Int32) : Option (Int32) :=
  if (6 : Int32) ≤ v3 then (some v2)
  else (
    (f_X5_isKnown E M v0 v3 v1).bind fun x3 =>
    if x3 = 0 then (k4 v0 v1 v2 (v3 + 1))
    else (
      nm (v2 ||| ((1 : Int32) <<< (v3 &&& 31))) fun x5 =>
      k4 v0 v1 x5 (v3 + 1)))
set_option maxRecDepth 100000 in
set_option maxHeartbeats 4000000 in
theorem ob_X5_knowers_L4 {X : Ctx} {l0 : Launch} {E : Env1} (h : Cx X l0 E RX5 cX5_knowers (some .int) 4 rm_X5_knowers) (hE : WF E) {M : Mem} {r : Int32} (hR : RetI X E cX5_knowers r M) {k4 : Nat → Int32 → Int32 → Int32 → (Option (Int32))} (hk4 : ∀ (v0 : Nat) (v1 : Int32) (v2 : Int32) (v3 : Int32), isK E v0 4 → k4 v0 v1 v2 v3 = some r → G X E (0, 0) 4 [some (.ref v0), some (.int v1), some (.int v2), some (.int v3)] [] M) {v0 : Nat} {v1 : Int32} {v2 : Int32} {v3 : Int32} (h_v0 : isK E v0 4) (hf : b_X5_knowers_L4 E M k4 v0 v1 v2 v3 = some r) : G X E (0, 0) 4 [some (.ref v0), some (.int v1), some (.int v2), some (.int v3)] [] M := by
  unfold b_X5_knowers_L4 at hf
  refine G_iload_n h dX5_knowers_4 (i := 3) rfl rfl rfl ?_
  refine G_bipush h dX5_knowers_5 kb_6 rfl ?_
  refine G_icmp_ge h dX5_knowers_7 (tgt := 31) (by decide) rfl (fun c1 => ?_) (fun c1 => ?_)
  · have hf := it_t c1 hf
    refine G_iload_n h dX5_knowers_31 (i := 2) rfl rfl rfl ?_
    exact roI hR dX5_knowers_32 hf
  · have hf := it_f c1 hf
    refine G_aload_n h dX5_knowers_10 (i := 0) rfl rfl rfl ?_
    refine G_iload_n h dX5_knowers_11 (i := 3) rfl rfl rfl ?_
    refine G_iload_n h dX5_knowers_12 (i := 1) rfl rfl rfl ?_
    obtain ⟨x3, hx3, hf⟩ := bd hf
    refine cl_X5_33 h (ok_X5_isKnown hE _ h_v0 hx3) dX5_knowers_13 h_v0 (as := [.int v3, .int v1]) rfl rfl ⟨rfl, rfl, Nat.le_of_ble_eq_true rfl, Nat.le_of_ble_eq_true rfl⟩ rfl (Nat.le_of_ble_eq_true rfl) (fun z2 => ?_)
    refine G_if_eq h dX5_knowers_16 (tgt := 25) (by decide) rfl (fun c4 => ?_) (fun c4 => ?_)
    · have hf := it_t c4 hf
      refine G_iinc2 h dX5_knowers_25 rfl ki_1 (by decide) (L' := [some (.ref v0), some (.int v1), some (.int v2), some (.int (v3 + 1))]) rfl rfl ?_
      refine G_goto h dX5_knowers_28 (tgt := 4) (by decide) ?_
      exact hk4 _ _ _ _ h_v0 hf
    · have hf := it_f c4 hf
      refine G_iload_n h dX5_knowers_19 (i := 2) rfl rfl rfl ?_
      refine G_iconst h dX5_knowers_20 ki_1 rfl ?_
      refine G_iload_n h dX5_knowers_21 (i := 3) rfl rfl rfl ?_
      refine G_ishl h dX5_knowers_22 rfl ?_
      refine G_ior h dX5_knowers_23 rfl ?_
      refine G_nmi (fun x5 hx5 => ?_)
      have hf := nm_eq hx5 hf
      refine G_istore_n h dX5_knowers_24 (i := 2) rfl (by decide) (L' := [some (.ref v0), some (.int v1), some (.int x5), some (.int v3)]) rfl rfl ?_
      refine G_iinc2 h dX5_knowers_25 rfl ki_1 (by decide) (L' := [some (.ref v0), some (.int v1), some (.int x5), some (.int (v3 + 1))]) rfl rfl ?_
      refine G_goto h dX5_knowers_28 (tgt := 4) (by decide) ?_
      exact hk4 _ _ _ _ h_v0 hf
def f_X5_knowers_L4 (E : Env1) (M : Mem) : Nat → Nat → Int32 → Int32 → Int32 → (Option (Int32))
  | 0 => fun _ _ _ _ => none
  | n + 1 => b_X5_knowers_L4 E M (f_X5_knowers_L4 E M n)
theorem o_X5_knowers_L4 {X : Ctx} {l0 : Launch} {E : Env1} (h : Cx X l0 E RX5 cX5_knowers (some .int) 4 rm_X5_knowers) (hE : WF E) {M : Mem} {r : Int32} (hR : RetI X E cX5_knowers r M) : ∀ (n : Nat) (v0 : Nat) (v1 : Int32) (v2 : Int32) (v3 : Int32), isK E v0 4 → f_X5_knowers_L4 E M n v0 v1 v2 v3 = some r → G X E (0, 0) 4 [some (.ref v0), some (.int v1), some (.int v2), some (.int v3)] [] M := by
  intro n
  induction n with
  | zero =>
    intro _ _ _ _ a0 hf
    have h0 : (none : Option (Int32)) = some r := hf
    cases h0
  | succ n ih =>
    intro _ _ _ _ a0 hf
    exact ob_X5_knowers_L4 h hE hR  ih a0 hf
def f_X5_knowers (E : Env1) (M : Mem) (v0 : Nat) (v1 : Int32) : Option (Int32) :=
  f_X5_knowers_L4 E M FU v0 v1 (0 : Int32) (0 : Int32)
set_option maxRecDepth 100000 in
set_option maxHeartbeats 4000000 in
theorem ok_X5_knowers {E : Env1} (hE : WF E) (l0 : Launch) {M : Mem} {v0 : Nat} {v1 : Int32} {r : Int32} (h0 : isK E v0 4) (hf : f_X5_knowers E M v0 v1 = some r) : Met l0 yX5_knowers (wsA yX5_knowers cX5_knowers 4 (some .int)) rm_X5_knowers (CP E M [.ref v0, .int v1]) (CQi E r M) 0 0 (eA E) := by
  unfold f_X5_knowers at hf
  refine mtI l0 (by decide +kernel) (Nat.le_of_ble_eq_true rfl) (L0 := [some (.ref v0), some (.int v1), none, none]) rfl (fun X h hR => ?_)
  refine G_iconst h dX5_knowers_0 ki_0 rfl ?_
  refine G_istore_n h dX5_knowers_1 (i := 2) rfl (by decide) (L' := [some (.ref v0), some (.int v1), some (.int (0 : Int32)), none]) rfl rfl ?_
  refine G_iconst h dX5_knowers_2 ki_0 rfl ?_
  refine G_istore_n h dX5_knowers_3 (i := 3) rfl (by decide) (L' := [some (.ref v0), some (.int v1), some (.int (0 : Int32)), some (.int (0 : Int32))]) rfl rfl ?_
  exact o_X5_knowers_L4 h hE hR  FU _ _ _ _ h0 hf
def rm_X5_learn : Room := { frames := 1, cells := 0, slots := 0, locals := 22 }
def f_X5_learn (E : Env1) (M : Mem) (v0 : Nat) (v1 : Int32) (v2 : Int32) : Option (Mem) :=
  if (f_X8_within E M v1 (0 : Int32) (5 : Int32)) = 0 then (some M)
  else (gd v1 6 (some (wi M (rr E v0 1) (ix v1) ((mi M (rr E v0 1) (ix v1)) ||| ((1 : Int32) <<< (v2 &&& 31))))))
set_option maxRecDepth 100000 in
set_option maxHeartbeats 4000000 in
theorem ok_X5_learn {E : Env1} (hE : WF E) (l0 : Launch) {M : Mem} {M' : Mem} {v0 : Nat} {v1 : Int32} {v2 : Int32} (h0 : isK E v0 4) (hf : f_X5_learn E M v0 v1 v2 = some (M')) : Met l0 yX5_learn (wsA yX5_learn cX5_learn 3 none) rm_X5_learn (CP E M [.ref v0, .int v1, .int v2]) (CQv E M') 0 0 (eA E) := by
  unfold f_X5_learn at hf
  refine mtV l0 (by decide +kernel) (Nat.le_of_ble_eq_true rfl) (L0 := [some (.ref v0), some (.int v1), some (.int v2)]) rfl (fun X h hR => ?_)
  refine G_iload_n h dX5_learn_0 (i := 1) rfl rfl rfl ?_
  refine G_iconst h dX5_learn_1 ki_0 rfl ?_
  refine G_iconst h dX5_learn_2 ki_5 rfl ?_
  refine cl_X5_49 h (ok_X8_within hE _  (r := f_X8_within E M v1 (0 : Int32) (5 : Int32)) rfl) dX5_learn_3 (as := [.int v1, .int (0 : Int32), .int (5 : Int32)]) rfl rfl ⟨rfl, rfl, Nat.le_of_ble_eq_true rfl, Nat.le_of_ble_eq_true rfl⟩ rfl (Nat.le_of_ble_eq_true rfl) (fun z1 => ?_)
  refine G_if_eq h dX5_learn_6 (tgt := 21) (by decide) rfl (fun c2 => ?_) (fun c2 => ?_)
  · have hf := it_t c2 hf
    exact pwV hR dX5_learn_21 hf
  · have hf := it_f c2 hf
    refine G_aload_n h dX5_learn_9 (i := 0) rfl rfl rfl ?_
    refine gf_X5_15 h hE dX5_learn_10 h0 rfl ?_
    refine G_iload_n h dX5_learn_13 (i := 1) rfl rfl rfl ?_
    refine G_dup2 h dX5_learn_14 rfl rfl rfl ?_
    obtain ⟨g3, hf⟩ := gd_some hf
    refine G_iald h dX5_learn_15 ((w_4_1 hE h0).2) g3 (jx := (ix v1)) rfl rfl ?_
    refine G_iconst h dX5_learn_16 ki_1 rfl ?_
    refine G_iload_n h dX5_learn_17 (i := 2) rfl rfl rfl ?_
    refine G_ishl h dX5_learn_18 rfl ?_
    refine G_ior h dX5_learn_19 rfl ?_
    refine G_iast h dX5_learn_20 ((w_4_1 hE h0).2) g3 (jx := (ix v1)) rfl rfl ?_
    exact pwV hR dX5_learn_21 hf
def rm_X5_toldOn : Room := { frames := 0, cells := 0, slots := 0, locals := 0 }
def b_X5_toldOn_L4 (E : Env1) (M : Mem) (k4 : Nat → Int32 → Int32 → Int32 → (Option (Int32))) (v0 : Nat) (v1 : Int32) (v2 : Int32) (v3 : Int32) : Option (Int32) :=
  if (7 : Int32) ≤ v3 then (some (v1 ||| v2))
  else (
    nm (if ((v1 &&& (mi M v0 3)) &&& ((1 : Int32) <<< (v3 &&& 31))) = 0 then (0 : Int32) else (1 : Int32)) fun x3 =>
    gd (v3 + (1 : Int32)) 8 (nm (mi M (rr E v0 0) (ix (v3 + (1 : Int32)))) fun x5 =>
    if x3 = 0 then (k4 v0 v1 v2 (v3 + 1))
    else (
      if x5 = 0 then (
        nm (v2 ||| ((1 : Int32) <<< ((v3 + (1 : Int32)) &&& 31))) fun x8 =>
        k4 v0 v1 x8 (v3 + 1))
      else (
        if x5 = (4 : Int32) then (
          nm (v2 ||| ((1 : Int32) <<< ((v3 + (1 : Int32)) &&& 31))) fun x10 =>
          k4 v0 v1 x10 (v3 + 1))
        else (k4 v0 v1 v2 (v3 + 1))))))
set_option maxRecDepth 100000 in
set_option maxHeartbeats 4000000 in
theorem ob_X5_toldOn_L4 {X : Ctx} {l0 : Launch} {E : Env1} (h : Cx X l0 E RX5 cX5_toldOn (some .int) 6 rm_X5_toldOn) (hE : WF E) {M : Mem} {r : Int32} (hR : RetI X E cX5_toldOn r M) {k4 : Nat → Int32 → Int32 → Int32 → (Option (Int32))} (hk4 : ∀ (v0 : Nat) (v1 : Int32) (v2 : Int32) (v3 : Int32), isK E v0 4 → k4 v0 v1 v2 v3 = some r → G X E (0, 0) 4 [some (.ref v0), some (.int v1), some (.int v2), some (.int v3), none, none] [] M) {v0 : Nat} {v1 : Int32} {v2 : Int32} {v3 : Int32} (h_v0 : isK E v0 4) (hf : b_X5_toldOn_L4 E M k4 v0 v1 v2 v3 = some r) : G X E (0, 0) 4 [some (.ref v0), some (.int v1), some (.int v2), some (.int v3), none, none] [] M := by
  unfold b_X5_toldOn_L4 at hf
  refine G_iload_n h dX5_toldOn_4 (i := 3) rfl rfl rfl ?_
  refine G_bipush h dX5_toldOn_5 kb_7 rfl ?_
  refine G_icmp_ge h dX5_toldOn_7 (tgt := 70) (by decide) rfl (fun c1 => ?_) (fun c1 => ?_)
  · have hf := it_t c1 hf
    refine G_iload_n h dX5_toldOn_70 (i := 1) rfl rfl rfl ?_
    refine G_iload_n h dX5_toldOn_71 (i := 2) rfl rfl rfl ?_
    refine G_ior h dX5_toldOn_72 rfl ?_
    exact roI hR dX5_toldOn_73 hf
  · have hf := it_f c1 hf
    refine G_iload_n h dX5_toldOn_10 (i := 1) rfl rfl rfl ?_
    refine G_aload_n h dX5_toldOn_11 (i := 0) rfl rfl rfl ?_
    refine gf_X5_26 h dX5_toldOn_12 h_v0 rfl ?_
    refine G_iand h dX5_toldOn_15 rfl ?_
    refine G_iconst h dX5_toldOn_16 ki_1 rfl ?_
    refine G_iload_n h dX5_toldOn_17 (i := 3) rfl rfl rfl ?_
    refine G_ishl h dX5_toldOn_18 rfl ?_
    refine G_iand h dX5_toldOn_19 rfl ?_
    have hJ : G X E (0, 0) 28 [some (.ref v0), some (.int v1), some (.int v2), some (.int v3), none, none] [.int (if ((v1 &&& (mi M v0 3)) &&& ((1 : Int32) <<< (v3 &&& 31))) = 0 then (0 : Int32) else (1 : Int32))] M := by
      refine G_nmi (fun x3 hx3 => ?_)
      have hf := nm_eq hx3 hf
      refine G_istore h dX5_toldOn_28  (by decide) (L' := [some (.ref v0), some (.int v1), some (.int v2), some (.int v3), some (.int x3), none]) rfl rfl ?_
      refine G_aload_n h dX5_toldOn_30 (i := 0) rfl rfl rfl ?_
      refine gf_X5_9 h hE dX5_toldOn_31 h_v0 rfl ?_
      refine G_iload_n h dX5_toldOn_34 (i := 3) rfl rfl rfl ?_
      refine G_iconst h dX5_toldOn_35 ki_1 rfl ?_
      refine G_iadd h dX5_toldOn_36 rfl ?_
      obtain ⟨g4, hf⟩ := gd_some hf
      refine G_iald h dX5_toldOn_37 ((w_4_0 hE h_v0).2) g4 (jx := (ix (v3 + (1 : Int32)))) rfl rfl ?_
      refine G_nmi (fun x5 hx5 => ?_)
      have hf := nm_eq hx5 hf
      refine G_istore h dX5_toldOn_38  (by decide) (L' := [some (.ref v0), some (.int v1), some (.int v2), some (.int v3), some (.int x3), some (.int x5)]) rfl rfl ?_
      refine G_iload h dX5_toldOn_40 rfl rfl ?_
      refine G_if_eq h dX5_toldOn_42 (tgt := 64) (by decide) rfl (fun c6 => ?_) (fun c6 => ?_)
      · have hf := it_t c6 hf
        refine G_iinc2 h dX5_toldOn_64 rfl ki_1 (by decide) (L' := [some (.ref v0), some (.int v1), some (.int v2), some (.int (v3 + 1)), some (.int x3), some (.int x5)]) rfl rfl ?_
        refine G_goto h dX5_toldOn_67 (tgt := 4) (by decide) ?_
        refine G_mskL [true, true, true, true, false, false] (L' := [some (.ref v0), some (.int v1), some (.int v2), some (.int (v3 + 1)), none, none]) rfl ?_
        exact hk4 _ _ _ _ h_v0 hf
      · have hf := it_f c6 hf
        refine G_iload h dX5_toldOn_45 rfl rfl ?_
        refine G_if_eq h dX5_toldOn_47 (tgt := 56) (by decide) rfl (fun c7 => ?_) (fun c7 => ?_)
        · have hf := it_t c7 hf
          refine G_iload_n h dX5_toldOn_56 (i := 2) rfl rfl rfl ?_
          refine G_iconst h dX5_toldOn_57 ki_1 rfl ?_
          refine G_iload_n h dX5_toldOn_58 (i := 3) rfl rfl rfl ?_
          refine G_iconst h dX5_toldOn_59 ki_1 rfl ?_
          refine G_iadd h dX5_toldOn_60 rfl ?_
          refine G_ishl h dX5_toldOn_61 rfl ?_
          refine G_ior h dX5_toldOn_62 rfl ?_
          refine G_nmi (fun x8 hx8 => ?_)
          have hf := nm_eq hx8 hf
          refine G_istore_n h dX5_toldOn_63 (i := 2) rfl (by decide) (L' := [some (.ref v0), some (.int v1), some (.int x8), some (.int v3), some (.int x3), some (.int x5)]) rfl rfl ?_
          refine G_iinc2 h dX5_toldOn_64 rfl ki_1 (by decide) (L' := [some (.ref v0), some (.int v1), some (.int x8), some (.int (v3 + 1)), some (.int x3), some (.int x5)]) rfl rfl ?_
          refine G_goto h dX5_toldOn_67 (tgt := 4) (by decide) ?_
          refine G_mskL [true, true, true, true, false, false] (L' := [some (.ref v0), some (.int v1), some (.int x8), some (.int (v3 + 1)), none, none]) rfl ?_
          exact hk4 _ _ _ _ h_v0 hf
        · have hf := it_f c7 hf
          refine G_iload h dX5_toldOn_50 rfl rfl ?_
          refine G_iconst h dX5_toldOn_52 ki_4 rfl ?_
          refine G_icmp_ne h dX5_toldOn_53 (tgt := 64) (by decide) rfl (fun c9 => ?_) (fun c9 => ?_)
          · have hf := it_f c9 hf
            refine G_iinc2 h dX5_toldOn_64 rfl ki_1 (by decide) (L' := [some (.ref v0), some (.int v1), some (.int v2), some (.int (v3 + 1)), some (.int x3), some (.int x5)]) rfl rfl ?_
            refine G_goto h dX5_toldOn_67 (tgt := 4) (by decide) ?_
            refine G_mskL [true, true, true, true, false, false] (L' := [some (.ref v0), some (.int v1), some (.int v2), some (.int (v3 + 1)), none, none]) rfl ?_
            exact hk4 _ _ _ _ h_v0 hf
          · have hf := it_t c9 hf
            refine G_iload_n h dX5_toldOn_56 (i := 2) rfl rfl rfl ?_
            refine G_iconst h dX5_toldOn_57 ki_1 rfl ?_
            refine G_iload_n h dX5_toldOn_58 (i := 3) rfl rfl rfl ?_
            refine G_iconst h dX5_toldOn_59 ki_1 rfl ?_
            refine G_iadd h dX5_toldOn_60 rfl ?_
            refine G_ishl h dX5_toldOn_61 rfl ?_
            refine G_ior h dX5_toldOn_62 rfl ?_
            refine G_nmi (fun x10 hx10 => ?_)
            have hf := nm_eq hx10 hf
            refine G_istore_n h dX5_toldOn_63 (i := 2) rfl (by decide) (L' := [some (.ref v0), some (.int v1), some (.int x10), some (.int v3), some (.int x3), some (.int x5)]) rfl rfl ?_
            refine G_iinc2 h dX5_toldOn_64 rfl ki_1 (by decide) (L' := [some (.ref v0), some (.int v1), some (.int x10), some (.int (v3 + 1)), some (.int x3), some (.int x5)]) rfl rfl ?_
            refine G_goto h dX5_toldOn_67 (tgt := 4) (by decide) ?_
            refine G_mskL [true, true, true, true, false, false] (L' := [some (.ref v0), some (.int v1), some (.int x10), some (.int (v3 + 1)), none, none]) rfl ?_
            exact hk4 _ _ _ _ h_v0 hf
    refine G_if_eq h dX5_toldOn_20 (tgt := 27) (by decide) rfl (fun c2 => ?_) (fun c2 => ?_)
    · refine G_iconst h dX5_toldOn_27 ki_0 rfl ?_
      exact G_ifp c2 hJ
    · refine G_iconst h dX5_toldOn_23 ki_1 rfl ?_
      refine G_goto h dX5_toldOn_24 (tgt := 28) (by decide) ?_
      exact G_ifn c2 hJ
def f_X5_toldOn_L4 (E : Env1) (M : Mem) : Nat → Nat → Int32 → Int32 → Int32 → (Option (Int32))
  | 0 => fun _ _ _ _ => none
  | n + 1 => b_X5_toldOn_L4 E M (f_X5_toldOn_L4 E M n)
theorem o_X5_toldOn_L4 {X : Ctx} {l0 : Launch} {E : Env1} (h : Cx X l0 E RX5 cX5_toldOn (some .int) 6 rm_X5_toldOn) (hE : WF E) {M : Mem} {r : Int32} (hR : RetI X E cX5_toldOn r M) : ∀ (n : Nat) (v0 : Nat) (v1 : Int32) (v2 : Int32) (v3 : Int32), isK E v0 4 → f_X5_toldOn_L4 E M n v0 v1 v2 v3 = some r → G X E (0, 0) 4 [some (.ref v0), some (.int v1), some (.int v2), some (.int v3), none, none] [] M := by
  intro n
  induction n with
  | zero =>
    intro _ _ _ _ a0 hf
    have h0 : (none : Option (Int32)) = some r := hf
    cases h0
  | succ n ih =>
    intro _ _ _ _ a0 hf
    exact ob_X5_toldOn_L4 h hE hR  ih a0 hf
def f_X5_toldOn (E : Env1) (M : Mem) (v0 : Nat) (v1 : Int32) : Option (Int32) :=
  f_X5_toldOn_L4 E M FU v0 v1 (0 : Int32) (0 : Int32)
set_option maxRecDepth 100000 in
set_option maxHeartbeats 4000000 in
theorem ok_X5_toldOn {E : Env1} (hE : WF E) (l0 : Launch) {M : Mem} {v0 : Nat} {v1 : Int32} {r : Int32} (h0 : isK E v0 4) (hf : f_X5_toldOn E M v0 v1 = some r) : Met l0 yX5_toldOn (wsA yX5_toldOn cX5_toldOn 6 (some .int)) rm_X5_toldOn (CP E M [.ref v0, .int v1]) (CQi E r M) 0 0 (eA E) := by
  unfold f_X5_toldOn at hf
  refine mtI l0 (by decide +kernel) (Nat.le_of_ble_eq_true rfl) (L0 := [some (.ref v0), some (.int v1), none, none, none, none]) rfl (fun X h hR => ?_)
  refine G_iconst h dX5_toldOn_0 ki_0 rfl ?_
  refine G_istore_n h dX5_toldOn_1 (i := 2) rfl (by decide) (L' := [some (.ref v0), some (.int v1), some (.int (0 : Int32)), none, none, none]) rfl rfl ?_
  refine G_iconst h dX5_toldOn_2 ki_0 rfl ?_
  refine G_istore_n h dX5_toldOn_3 (i := 3) rfl (by decide) (L' := [some (.ref v0), some (.int v1), some (.int (0 : Int32)), some (.int (0 : Int32)), none, none]) rfl rfl ?_
  exact o_X5_toldOn_L4 h hE hR  FU _ _ _ _ h0 hf
def rm_X5_passMinute : Room := { frames := 1, cells := 0, slots := 0, locals := 25 }
def b_X5_passMinute_L2 (E : Env1) (k2 : Mem → Nat → Int32 → (Option (Mem))) (M : Mem) (v0 : Nat) (v1 : Int32) : Option (Mem) :=
  if (6 : Int32) ≤ v1 then (some (wi M v0 4 ((mi M v0 4) + (1 : Int32))))
  else (
    gd v1 6 ((f_X5_toldOn E M v0 (mi M (rr E v0 1) (ix v1))).bind fun x3 =>
    k2 (wi M (rr E v0 1) (ix v1) x3) v0 (v1 + 1)))
set_option maxRecDepth 100000 in
set_option maxHeartbeats 4000000 in
theorem ob_X5_passMinute_L2 {X : Ctx} {l0 : Launch} {E : Env1} (h : Cx X l0 E RX5 cX5_passMinute none 2 rm_X5_passMinute) (hE : WF E) {M' : Mem} (hR : RetV X E cX5_passMinute M') {k2 : Mem → Nat → Int32 → (Option (Mem))} (hk2 : ∀ (M : Mem) (v0 : Nat) (v1 : Int32), isK E v0 4 → k2 M v0 v1 = some (M') → G X E (0, 0) 2 [some (.ref v0), some (.int v1)] [] M) {M : Mem} {v0 : Nat} {v1 : Int32} (h_v0 : isK E v0 4) (hf : b_X5_passMinute_L2 E k2 M v0 v1 = some (M')) : G X E (0, 0) 2 [some (.ref v0), some (.int v1)] [] M := by
  unfold b_X5_passMinute_L2 at hf
  refine G_iload_n h dX5_passMinute_2 (i := 1) rfl rfl rfl ?_
  refine G_bipush h dX5_passMinute_3 kb_6 rfl ?_
  refine G_icmp_ge h dX5_passMinute_5 (tgt := 30) (by decide) rfl (fun c1 => ?_) (fun c1 => ?_)
  · have hf := it_t c1 hf
    refine G_aload_n h dX5_passMinute_30 (i := 0) rfl rfl rfl ?_
    refine G_dup h dX5_passMinute_31 rfl rfl ?_
    refine gf_X5_30 h dX5_passMinute_32 h_v0 rfl ?_
    refine G_iconst h dX5_passMinute_35 ki_1 rfl ?_
    refine G_iadd h dX5_passMinute_36 rfl ?_
    refine pf_X5_30 h dX5_passMinute_37 h_v0 rfl ?_
    exact pwV hR dX5_passMinute_40 hf
  · have hf := it_f c1 hf
    refine G_aload_n h dX5_passMinute_8 (i := 0) rfl rfl rfl ?_
    refine gf_X5_15 h hE dX5_passMinute_9 h_v0 rfl ?_
    refine G_iload_n h dX5_passMinute_12 (i := 1) rfl rfl rfl ?_
    refine G_aload_n h dX5_passMinute_13 (i := 0) rfl rfl rfl ?_
    refine G_aload_n h dX5_passMinute_14 (i := 0) rfl rfl rfl ?_
    refine gf_X5_15 h hE dX5_passMinute_15 h_v0 rfl ?_
    refine G_iload_n h dX5_passMinute_18 (i := 1) rfl rfl rfl ?_
    obtain ⟨g2, hf⟩ := gd_some hf
    refine G_iald h dX5_passMinute_19 ((w_4_1 hE h_v0).2) g2 (jx := (ix v1)) rfl rfl ?_
    obtain ⟨x3, hx3, hf⟩ := bd hf
    refine cl_X5_43 h (ok_X5_toldOn hE _ h_v0 hx3) dX5_passMinute_20 h_v0 (as := [.int (mi M (rr E v0 1) (ix v1))]) rfl rfl ⟨rfl, rfl, Nat.le_of_ble_eq_true rfl, Nat.le_of_ble_eq_true rfl⟩ rfl (Nat.le_of_ble_eq_true rfl) ?_
    refine G_iast h dX5_passMinute_23 ((w_4_1 hE h_v0).2) g2 (jx := (ix v1)) rfl rfl ?_
    refine G_iinc2 h dX5_passMinute_24 rfl ki_1 (by decide) (L' := [some (.ref v0), some (.int (v1 + 1))]) rfl rfl ?_
    refine G_goto h dX5_passMinute_27 (tgt := 2) (by decide) ?_
    exact hk2 _ _ _ h_v0 hf
def f_X5_passMinute_L2 (E : Env1) : Nat → Mem → Nat → Int32 → (Option (Mem))
  | 0 => fun _ _ _ => none
  | n + 1 => b_X5_passMinute_L2 E (f_X5_passMinute_L2 E n)
theorem o_X5_passMinute_L2 {X : Ctx} {l0 : Launch} {E : Env1} (h : Cx X l0 E RX5 cX5_passMinute none 2 rm_X5_passMinute) (hE : WF E) {M' : Mem} (hR : RetV X E cX5_passMinute M') : ∀ (n : Nat) (M : Mem) (v0 : Nat) (v1 : Int32), isK E v0 4 → f_X5_passMinute_L2 E n M v0 v1 = some (M') → G X E (0, 0) 2 [some (.ref v0), some (.int v1)] [] M := by
  intro n
  induction n with
  | zero =>
    intro _ _ _ a0 hf
    have h0 : (none : Option (Mem)) = some (M') := hf
    cases h0
  | succ n ih =>
    intro _ _ _ a0 hf
    exact ob_X5_passMinute_L2 h hE hR  ih a0 hf
def f_X5_passMinute (E : Env1) (M : Mem) (v0 : Nat) : Option (Mem) :=
  f_X5_passMinute_L2 E FU M v0 (0 : Int32)
set_option maxRecDepth 100000 in
set_option maxHeartbeats 4000000 in
theorem ok_X5_passMinute {E : Env1} (hE : WF E) (l0 : Launch) {M : Mem} {M' : Mem} {v0 : Nat} (h0 : isK E v0 4) (hf : f_X5_passMinute E M v0 = some (M')) : Met l0 yX5_passMinute (wsA yX5_passMinute cX5_passMinute 2 none) rm_X5_passMinute (CP E M [.ref v0]) (CQv E M') 0 0 (eA E) := by
  unfold f_X5_passMinute at hf
  refine mtV l0 (by decide +kernel) (Nat.le_of_ble_eq_true rfl) (L0 := [some (.ref v0), none]) rfl (fun X h hR => ?_)
  refine G_iconst h dX5_passMinute_0 ki_0 rfl ?_
  refine G_istore_n h dX5_passMinute_1 (i := 1) rfl (by decide) (L' := [some (.ref v0), some (.int (0 : Int32))]) rfl rfl ?_
  exact o_X5_passMinute_L2 h hE hR  FU _ _ _ h0 hf
def rm_X4_append : Room := { frames := 1, cells := 0, slots := 0, locals := 22 }
def f_X4_append (E : Env1) (M : Mem) (v0 : Nat) (v1 : Int32) (v2 : Int32) (v3 : Int32) (v4 : Int32) : Option (Mem) :=
  if (f_X8_within E M ((mi M v0 0) * (4 : Int32)) (0 : Int32) ((24 : Int32) - (4 : Int32))) = 0 then (some M)
  else (
    gd ((mi M v0 0) * (4 : Int32)) 24 (gd (((mi M v0 0) * (4 : Int32)) + (1 : Int32)) 24 (nm (wi (wi M (rr E v0 1) (ix ((mi M v0 0) * (4 : Int32))) v1) (rr E v0 1) (ix (((mi M v0 0) * (4 : Int32)) + (1 : Int32))) v2) fun M5 =>
    gd (((mi M v0 0) * (4 : Int32)) + (2 : Int32)) 24 (gd (((mi M v0 0) * (4 : Int32)) + (3 : Int32)) 24 (nm (wi (wi M5 (rr E v0 1) (ix (((mi M v0 0) * (4 : Int32)) + (2 : Int32))) v3) (rr E v0 1) (ix (((mi M v0 0) * (4 : Int32)) + (3 : Int32))) v4) fun M8 =>
    some (wi M8 v0 0 ((mi M8 v0 0) + (1 : Int32))))))))
set_option maxRecDepth 100000 in
set_option maxHeartbeats 4000000 in
theorem ok_X4_append {E : Env1} (hE : WF E) (l0 : Launch) {M : Mem} {M' : Mem} {v0 : Nat} {v1 : Int32} {v2 : Int32} {v3 : Int32} {v4 : Int32} (h0 : isK E v0 3) (hf : f_X4_append E M v0 v1 v2 v3 v4 = some (M')) : Met l0 yX4_append (wsA yX4_append cX4_append 6 none) rm_X4_append (CP E M [.ref v0, .int v1, .int v2, .int v3, .int v4]) (CQv E M') 0 0 (eA E) := by
  unfold f_X4_append at hf
  refine mtV l0 (by decide +kernel) (Nat.le_of_ble_eq_true rfl) (L0 := [some (.ref v0), some (.int v1), some (.int v2), some (.int v3), some (.int v4), none]) rfl (fun X h hR => ?_)
  refine G_aload_n h dX4_append_0 (i := 0) rfl rfl rfl ?_
  refine gf_X4_9 h dX4_append_1 h0 rfl ?_
  refine G_iconst h dX4_append_4 ki_4 rfl ?_
  refine G_imul h dX4_append_5 rfl ?_
  refine G_istore h dX4_append_6  (by decide) (L' := [some (.ref v0), some (.int v1), some (.int v2), some (.int v3), some (.int v4), some (.int ((mi M v0 0) * (4 : Int32)))]) rfl rfl ?_
  refine G_iload h dX4_append_8 rfl rfl ?_
  refine G_iconst h dX4_append_10 ki_0 rfl ?_
  refine G_aload_n h dX4_append_11 (i := 0) rfl rfl rfl ?_
  refine gf_X4_15 h hE dX4_append_12 h0 rfl ?_
  refine G_alen h dX4_append_15 ((w_3_1 hE h0).2) (v := (24 : Int32)) rfl rfl ?_
  refine G_iconst h dX4_append_16 ki_4 rfl ?_
  refine G_isub h dX4_append_17 rfl ?_
  refine cl_X4_19 h (ok_X8_within hE _  (r := f_X8_within E M ((mi M v0 0) * (4 : Int32)) (0 : Int32) ((24 : Int32) - (4 : Int32))) rfl) dX4_append_18 (as := [.int ((mi M v0 0) * (4 : Int32)), .int (0 : Int32), .int ((24 : Int32) - (4 : Int32))]) rfl rfl ⟨rfl, rfl, Nat.le_of_ble_eq_true rfl, Nat.le_of_ble_eq_true rfl⟩ rfl (Nat.le_of_ble_eq_true rfl) (fun z1 => ?_)
  refine G_if_eq h dX4_append_21 (tgt := 73) (by decide) rfl (fun c2 => ?_) (fun c2 => ?_)
  · have hf := it_t c2 hf
    exact pwV hR dX4_append_73 hf
  · have hf := it_f c2 hf
    refine G_aload_n h dX4_append_24 (i := 0) rfl rfl rfl ?_
    refine gf_X4_15 h hE dX4_append_25 h0 rfl ?_
    refine G_iload h dX4_append_28 rfl rfl ?_
    refine G_iload_n h dX4_append_30 (i := 1) rfl rfl rfl ?_
    obtain ⟨g3, hf⟩ := gd_some hf
    refine G_iast h dX4_append_31 ((w_3_1 hE h0).2) g3 (jx := (ix ((mi M v0 0) * (4 : Int32)))) rfl rfl ?_
    refine G_aload_n h dX4_append_32 (i := 0) rfl rfl rfl ?_
    refine gf_X4_15 h hE dX4_append_33 h0 rfl ?_
    refine G_iload h dX4_append_36 rfl rfl ?_
    refine G_iconst h dX4_append_38 ki_1 rfl ?_
    refine G_iadd h dX4_append_39 rfl ?_
    refine G_iload_n h dX4_append_40 (i := 2) rfl rfl rfl ?_
    obtain ⟨g4, hf⟩ := gd_some hf
    refine G_iast h dX4_append_41 ((w_3_1 hE h0).2) g4 (jx := (ix (((mi M v0 0) * (4 : Int32)) + (1 : Int32)))) rfl rfl ?_
    refine G_nmM (fun M5 hM5 => ?_)
    have hf := nm_eq hM5 hf
    refine G_aload_n h dX4_append_42 (i := 0) rfl rfl rfl ?_
    refine gf_X4_15 h hE dX4_append_43 h0 rfl ?_
    refine G_iload h dX4_append_46 rfl rfl ?_
    refine G_iconst h dX4_append_48 ki_2 rfl ?_
    refine G_iadd h dX4_append_49 rfl ?_
    refine G_iload_n h dX4_append_50 (i := 3) rfl rfl rfl ?_
    obtain ⟨g6, hf⟩ := gd_some hf
    refine G_iast h dX4_append_51 ((w_3_1 hE h0).2) g6 (jx := (ix (((mi M v0 0) * (4 : Int32)) + (2 : Int32)))) rfl rfl ?_
    refine G_aload_n h dX4_append_52 (i := 0) rfl rfl rfl ?_
    refine gf_X4_15 h hE dX4_append_53 h0 rfl ?_
    refine G_iload h dX4_append_56 rfl rfl ?_
    refine G_iconst h dX4_append_58 ki_3 rfl ?_
    refine G_iadd h dX4_append_59 rfl ?_
    refine G_iload h dX4_append_60 rfl rfl ?_
    obtain ⟨g7, hf⟩ := gd_some hf
    refine G_iast h dX4_append_62 ((w_3_1 hE h0).2) g7 (jx := (ix (((mi M v0 0) * (4 : Int32)) + (3 : Int32)))) rfl rfl ?_
    refine G_nmM (fun M8 hM8 => ?_)
    have hf := nm_eq hM8 hf
    refine G_aload_n h dX4_append_63 (i := 0) rfl rfl rfl ?_
    refine G_dup h dX4_append_64 rfl rfl ?_
    refine gf_X4_9 h dX4_append_65 h0 rfl ?_
    refine G_iconst h dX4_append_68 ki_1 rfl ?_
    refine G_iadd h dX4_append_69 rfl ?_
    refine pf_X4_9 h dX4_append_70 h0 rfl ?_
    exact pwV hR dX4_append_73 hf
def rm_X5_atTop : Room := { frames := 0, cells := 0, slots := 0, locals := 0 }
def b_X5_atTop_L4 (E : Env1) (M : Mem) (k4 : Nat → Int32 → Int32 → (Option (Int32))) (v0 : Nat) (v1 : Int32) (v2 : Int32) : Option (Int32) :=
  if (6 : Int32) ≤ v2 then (some v1)
  else (
    gd v2 6 (if (mi M (rr E v0 2) (ix v2)) = (8 : Int32) then (k4 v0 (v1 + 1) (v2 + 1))
    else (k4 v0 v1 (v2 + 1))))
set_option maxRecDepth 100000 in
set_option maxHeartbeats 4000000 in
theorem ob_X5_atTop_L4 {X : Ctx} {l0 : Launch} {E : Env1} (h : Cx X l0 E RX5 cX5_atTop (some .int) 3 rm_X5_atTop) (hE : WF E) {M : Mem} {r : Int32} (hR : RetI X E cX5_atTop r M) {k4 : Nat → Int32 → Int32 → (Option (Int32))} (hk4 : ∀ (v0 : Nat) (v1 : Int32) (v2 : Int32), isK E v0 4 → k4 v0 v1 v2 = some r → G X E (0, 0) 4 [some (.ref v0), some (.int v1), some (.int v2)] [] M) {v0 : Nat} {v1 : Int32} {v2 : Int32} (h_v0 : isK E v0 4) (hf : b_X5_atTop_L4 E M k4 v0 v1 v2 = some r) : G X E (0, 0) 4 [some (.ref v0), some (.int v1), some (.int v2)] [] M := by
  unfold b_X5_atTop_L4 at hf
  refine G_iload_n h dX5_atTop_4 (i := 2) rfl rfl rfl ?_
  refine G_bipush h dX5_atTop_5 kb_6 rfl ?_
  refine G_icmp_ge h dX5_atTop_7 (tgt := 30) (by decide) rfl (fun c1 => ?_) (fun c1 => ?_)
  · have hf := it_t c1 hf
    refine G_iload_n h dX5_atTop_30 (i := 1) rfl rfl rfl ?_
    exact roI hR dX5_atTop_31 hf
  · have hf := it_f c1 hf
    refine G_aload_n h dX5_atTop_10 (i := 0) rfl rfl rfl ?_
    refine gf_X5_18 h hE dX5_atTop_11 h_v0 rfl ?_
    refine G_iload_n h dX5_atTop_14 (i := 2) rfl rfl rfl ?_
    obtain ⟨g2, hf⟩ := gd_some hf
    refine G_iald h dX5_atTop_15 ((w_4_2 hE h_v0).2) g2 (jx := (ix v2)) rfl rfl ?_
    refine G_bipush h dX5_atTop_16 kb_8 rfl ?_
    refine G_icmp_ne h dX5_atTop_18 (tgt := 24) (by decide) rfl (fun c3 => ?_) (fun c3 => ?_)
    · have hf := it_f c3 hf
      refine G_iinc2 h dX5_atTop_24 rfl ki_1 (by decide) (L' := [some (.ref v0), some (.int v1), some (.int (v2 + 1))]) rfl rfl ?_
      refine G_goto h dX5_atTop_27 (tgt := 4) (by decide) ?_
      exact hk4 _ _ _ h_v0 hf
    · have hf := it_t c3 hf
      refine G_iinc2 h dX5_atTop_21 rfl ki_1 (by decide) (L' := [some (.ref v0), some (.int (v1 + 1)), some (.int v2)]) rfl rfl ?_
      refine G_iinc2 h dX5_atTop_24 rfl ki_1 (by decide) (L' := [some (.ref v0), some (.int (v1 + 1)), some (.int (v2 + 1))]) rfl rfl ?_
      refine G_goto h dX5_atTop_27 (tgt := 4) (by decide) ?_
      exact hk4 _ _ _ h_v0 hf
def f_X5_atTop_L4 (E : Env1) (M : Mem) : Nat → Nat → Int32 → Int32 → (Option (Int32))
  | 0 => fun _ _ _ => none
  | n + 1 => b_X5_atTop_L4 E M (f_X5_atTop_L4 E M n)
theorem o_X5_atTop_L4 {X : Ctx} {l0 : Launch} {E : Env1} (h : Cx X l0 E RX5 cX5_atTop (some .int) 3 rm_X5_atTop) (hE : WF E) {M : Mem} {r : Int32} (hR : RetI X E cX5_atTop r M) : ∀ (n : Nat) (v0 : Nat) (v1 : Int32) (v2 : Int32), isK E v0 4 → f_X5_atTop_L4 E M n v0 v1 v2 = some r → G X E (0, 0) 4 [some (.ref v0), some (.int v1), some (.int v2)] [] M := by
  intro n
  induction n with
  | zero =>
    intro _ _ _ a0 hf
    have h0 : (none : Option (Int32)) = some r := hf
    cases h0
  | succ n ih =>
    intro _ _ _ a0 hf
    exact ob_X5_atTop_L4 h hE hR  ih a0 hf
def f_X5_atTop (E : Env1) (M : Mem) (v0 : Nat) : Option (Int32) :=
  f_X5_atTop_L4 E M FU v0 (0 : Int32) (0 : Int32)
set_option maxRecDepth 100000 in
set_option maxHeartbeats 4000000 in
theorem ok_X5_atTop {E : Env1} (hE : WF E) (l0 : Launch) {M : Mem} {v0 : Nat} {r : Int32} (h0 : isK E v0 4) (hf : f_X5_atTop E M v0 = some r) : Met l0 yX5_atTop (wsA yX5_atTop cX5_atTop 3 (some .int)) rm_X5_atTop (CP E M [.ref v0]) (CQi E r M) 0 0 (eA E) := by
  unfold f_X5_atTop at hf
  refine mtI l0 (by decide +kernel) (Nat.le_of_ble_eq_true rfl) (L0 := [some (.ref v0), none, none]) rfl (fun X h hR => ?_)
  refine G_iconst h dX5_atTop_0 ki_0 rfl ?_
  refine G_istore_n h dX5_atTop_1 (i := 1) rfl (by decide) (L' := [some (.ref v0), some (.int (0 : Int32)), none]) rfl rfl ?_
  refine G_iconst h dX5_atTop_2 ki_0 rfl ?_
  refine G_istore_n h dX5_atTop_3 (i := 2) rfl (by decide) (L' := [some (.ref v0), some (.int (0 : Int32)), some (.int (0 : Int32))]) rfl rfl ?_
  exact o_X5_atTop_L4 h hE hR  FU _ _ _ h0 hf
def rm_X5_bearsAbove : Room := { frames := 1, cells := 0, slots := 0, locals := 22 }
def f_X5_bearsAbove (E : Env1) (M : Mem) (v0 : Nat) (v1 : Int32) (v2 : Int32) : Option (Int32) :=
  if (7 : Int32) ≤ v2 then (some (1 : Int32))
  else (
    (f_X5_isKnown E M v0 v1 (v2 + (1 : Int32))).bind fun x3 =>
    if x3 = 0 then (some (0 : Int32))
    else (some (1 : Int32)))
set_option maxRecDepth 100000 in
set_option maxHeartbeats 4000000 in
theorem ok_X5_bearsAbove {E : Env1} (hE : WF E) (l0 : Launch) {M : Mem} {v0 : Nat} {v1 : Int32} {v2 : Int32} {r : Int32} (h0 : isK E v0 4) (hf : f_X5_bearsAbove E M v0 v1 v2 = some r) : Met l0 yX5_bearsAbove (wsA yX5_bearsAbove cX5_bearsAbove 3 (some .boolean)) rm_X5_bearsAbove (CP E M [.ref v0, .int v1, .int v2]) (CQz E r M) 0 0 (eA E) := by
  unfold f_X5_bearsAbove at hf
  refine mtZ l0 (by decide +kernel) (Nat.le_of_ble_eq_true rfl) (L0 := [some (.ref v0), some (.int v1), some (.int v2)]) rfl (fun X h hR => ?_)
  refine G_iload_n h dX5_bearsAbove_0 (i := 2) rfl rfl rfl ?_
  refine G_bipush h dX5_bearsAbove_1 kb_7 rfl ?_
  refine G_icmp_ge h dX5_bearsAbove_3 (tgt := 17) (by decide) rfl (fun c1 => ?_) (fun c1 => ?_)
  · have hf := it_t c1 hf
    refine G_iconst h dX5_bearsAbove_17 ki_1 rfl ?_
    refine G_goto h dX5_bearsAbove_18 (tgt := 22) (by decide) ?_
    exact roZ hR dX5_bearsAbove_22 (Or.inr rfl) hf
  · have hf := it_f c1 hf
    refine G_aload_n h dX5_bearsAbove_6 (i := 0) rfl rfl rfl ?_
    refine G_iload_n h dX5_bearsAbove_7 (i := 1) rfl rfl rfl ?_
    refine G_iload_n h dX5_bearsAbove_8 (i := 2) rfl rfl rfl ?_
    refine G_iconst h dX5_bearsAbove_9 ki_1 rfl ?_
    refine G_iadd h dX5_bearsAbove_10 rfl ?_
    obtain ⟨x3, hx3, hf⟩ := bd hf
    refine cl_X5_33 h (ok_X5_isKnown hE _ h0 hx3) dX5_bearsAbove_11 h0 (as := [.int v1, .int (v2 + (1 : Int32))]) rfl rfl ⟨rfl, rfl, Nat.le_of_ble_eq_true rfl, Nat.le_of_ble_eq_true rfl⟩ rfl (Nat.le_of_ble_eq_true rfl) (fun z2 => ?_)
    refine G_if_eq h dX5_bearsAbove_14 (tgt := 21) (by decide) rfl (fun c4 => ?_) (fun c4 => ?_)
    · have hf := it_t c4 hf
      refine G_iconst h dX5_bearsAbove_21 ki_0 rfl ?_
      exact roZ hR dX5_bearsAbove_22 (Or.inl rfl) hf
    · have hf := it_f c4 hf
      refine G_iconst h dX5_bearsAbove_17 ki_1 rfl ?_
      refine G_goto h dX5_bearsAbove_18 (tgt := 22) (by decide) ?_
      exact roZ hR dX5_bearsAbove_22 (Or.inr rfl) hf
def rm_X5_highest : Room := { frames := 2, cells := 0, slots := 0, locals := 44 }
def b_X5_highest_L7 (E : Env1) (M : Mem) (k7 : Nat → Int32 → Int32 → (Option (Int32))) (v0 : Nat) (v1 : Int32) (v2 : Int32) : Option (Int32) :=
  if (8 : Int32) ≤ v2 then (some (8 : Int32))
  else (
    (f_X5_bearsAbove E M v0 v1 v2).bind fun x3 =>
    if x3 = 0 then (some v2)
    else (k7 v0 v1 (v2 + 1)))
set_option maxRecDepth 100000 in
set_option maxHeartbeats 4000000 in
theorem ob_X5_highest_L7 {X : Ctx} {l0 : Launch} {E : Env1} (h : Cx X l0 E RX5 cX5_highest (some .int) 3 rm_X5_highest) (hE : WF E) {M : Mem} {r : Int32} (hR : RetI X E cX5_highest r M) {k7 : Nat → Int32 → Int32 → (Option (Int32))} (hk7 : ∀ (v0 : Nat) (v1 : Int32) (v2 : Int32), isK E v0 4 → k7 v0 v1 v2 = some r → G X E (0, 0) 7 [some (.ref v0), some (.int v1), some (.int v2)] [] M) {v0 : Nat} {v1 : Int32} {v2 : Int32} (h_v0 : isK E v0 4) (hf : b_X5_highest_L7 E M k7 v0 v1 v2 = some r) : G X E (0, 0) 7 [some (.ref v0), some (.int v1), some (.int v2)] [] M := by
  unfold b_X5_highest_L7 at hf
  refine G_iload_n h dX5_highest_7 (i := 2) rfl rfl rfl ?_
  refine G_bipush h dX5_highest_8 kb_8 rfl ?_
  refine G_icmp_ge h dX5_highest_10 (tgt := 30) (by decide) rfl (fun c1 => ?_) (fun c1 => ?_)
  · have hf := it_t c1 hf
    refine G_bipush h dX5_highest_30 kb_8 rfl ?_
    exact roI hR dX5_highest_32 hf
  · have hf := it_f c1 hf
    refine G_aload_n h dX5_highest_13 (i := 0) rfl rfl rfl ?_
    refine G_iload_n h dX5_highest_14 (i := 1) rfl rfl rfl ?_
    refine G_iload_n h dX5_highest_15 (i := 2) rfl rfl rfl ?_
    obtain ⟨x3, hx3, hf⟩ := bd hf
    refine cl_X5_53 h (ok_X5_bearsAbove hE _ h_v0 hx3) dX5_highest_16 h_v0 (as := [.int v1, .int v2]) rfl rfl ⟨rfl, rfl, Nat.le_of_ble_eq_true rfl, Nat.le_of_ble_eq_true rfl⟩ rfl (Nat.le_of_ble_eq_true rfl) (fun z2 => ?_)
    refine G_if_ne h dX5_highest_19 (tgt := 24) (by decide) rfl (fun c4 => ?_) (fun c4 => ?_)
    · have hf := it_f c4 hf
      refine G_iinc2 h dX5_highest_24 rfl ki_1 (by decide) (L' := [some (.ref v0), some (.int v1), some (.int (v2 + 1))]) rfl rfl ?_
      refine G_goto h dX5_highest_27 (tgt := 7) (by decide) ?_
      exact hk7 _ _ _ h_v0 hf
    · have hf := it_t c4 hf
      refine G_iload_n h dX5_highest_22 (i := 2) rfl rfl rfl ?_
      exact roI hR dX5_highest_23 hf
def f_X5_highest_L7 (E : Env1) (M : Mem) : Nat → Nat → Int32 → Int32 → (Option (Int32))
  | 0 => fun _ _ _ => none
  | n + 1 => b_X5_highest_L7 E M (f_X5_highest_L7 E M n)
theorem o_X5_highest_L7 {X : Ctx} {l0 : Launch} {E : Env1} (h : Cx X l0 E RX5 cX5_highest (some .int) 3 rm_X5_highest) (hE : WF E) {M : Mem} {r : Int32} (hR : RetI X E cX5_highest r M) : ∀ (n : Nat) (v0 : Nat) (v1 : Int32) (v2 : Int32), isK E v0 4 → f_X5_highest_L7 E M n v0 v1 v2 = some r → G X E (0, 0) 7 [some (.ref v0), some (.int v1), some (.int v2)] [] M := by
  intro n
  induction n with
  | zero =>
    intro _ _ _ a0 hf
    have h0 : (none : Option (Int32)) = some r := hf
    cases h0
  | succ n ih =>
    intro _ _ _ a0 hf
    exact ob_X5_highest_L7 h hE hR  ih a0 hf
def f_X5_highest (E : Env1) (M : Mem) (v0 : Nat) (v1 : Int32) : Option (Int32) :=
  gd v1 6 (f_X5_highest_L7 E M FU v0 v1 (mi M (rr E v0 2) (ix v1)))
set_option maxRecDepth 100000 in
set_option maxHeartbeats 4000000 in
theorem ok_X5_highest {E : Env1} (hE : WF E) (l0 : Launch) {M : Mem} {v0 : Nat} {v1 : Int32} {r : Int32} (h0 : isK E v0 4) (hf : f_X5_highest E M v0 v1 = some r) : Met l0 yX5_highest (wsA yX5_highest cX5_highest 3 (some .int)) rm_X5_highest (CP E M [.ref v0, .int v1]) (CQi E r M) 0 0 (eA E) := by
  unfold f_X5_highest at hf
  refine mtI l0 (by decide +kernel) (Nat.le_of_ble_eq_true rfl) (L0 := [some (.ref v0), some (.int v1), none]) rfl (fun X h hR => ?_)
  refine G_aload_n h dX5_highest_0 (i := 0) rfl rfl rfl ?_
  refine gf_X5_18 h hE dX5_highest_1 h0 rfl ?_
  refine G_iload_n h dX5_highest_4 (i := 1) rfl rfl rfl ?_
  obtain ⟨g1, hf⟩ := gd_some hf
  refine G_iald h dX5_highest_5 ((w_4_2 hE h0).2) g1 (jx := (ix v1)) rfl rfl ?_
  refine G_istore_n h dX5_highest_6 (i := 2) rfl (by decide) (L' := [some (.ref v0), some (.int v1), some (.int (mi M (rr E v0 2) (ix v1)))]) rfl rfl ?_
  exact o_X5_highest_L7 h hE hR  FU _ _ _ h0 hf
def rm_J6_bitCount_0f7a4 : Room := { frames := 0, cells := 0, slots := 0, locals := 0 }
def f_J6_bitCount_0f7a4 (E : Env1) (M : Mem) (v0 : Int32) : Int32 :=
  nm (v0 - (((v0.toUInt32 >>> ((1 : Int32).toUInt32 &&& Int32.toUInt32 31)).toInt32) &&& (1431655765 : Int32))) fun x1 =>
  nm ((x1 &&& (858993459 : Int32)) + (((x1.toUInt32 >>> ((2 : Int32).toUInt32 &&& Int32.toUInt32 31)).toInt32) &&& (858993459 : Int32))) fun x2 =>
  nm ((x2 + ((x2.toUInt32 >>> ((4 : Int32).toUInt32 &&& Int32.toUInt32 31)).toInt32)) &&& (252645135 : Int32)) fun x3 =>
  nm (x3 + ((x3.toUInt32 >>> ((8 : Int32).toUInt32 &&& Int32.toUInt32 31)).toInt32)) fun x4 =>
  nm (x4 + ((x4.toUInt32 >>> ((16 : Int32).toUInt32 &&& Int32.toUInt32 31)).toInt32)) fun x5 =>
  x5 &&& (63 : Int32)
set_option maxRecDepth 100000 in
set_option maxHeartbeats 4000000 in
theorem ok_J6_bitCount_0f7a4 {E : Env1} (hE : WF E) (l0 : Launch) {M : Mem} {v0 : Int32} {r : Int32}  (hf : f_J6_bitCount_0f7a4 E M v0 = r) : Met l0 yJ6_bitCount_0f7a4 (wsA yJ6_bitCount_0f7a4 cJ6_bitCount_0f7a4 1 (some .int)) rm_J6_bitCount_0f7a4 (CP E M [.int v0]) (CQi E r M) 0 0 (eA E) := by
  unfold f_J6_bitCount_0f7a4 at hf
  refine mtI l0 (by decide +kernel) (Nat.le_of_ble_eq_true rfl) (L0 := [some (.int v0)]) rfl (fun X h hR => ?_)
  refine G_iload_n h dJ6_bitCount_0f7a4_0 (i := 0) rfl rfl rfl ?_
  refine G_iload_n h dJ6_bitCount_0f7a4_1 (i := 0) rfl rfl rfl ?_
  refine G_iconst h dJ6_bitCount_0f7a4_2 ki_1 rfl ?_
  refine G_iushr h dJ6_bitCount_0f7a4_3 rfl ?_
  refine G_ldcw h q619 dJ6_bitCount_0f7a4_4 rfl ?_
  refine G_iand h dJ6_bitCount_0f7a4_7 rfl ?_
  refine G_isub h dJ6_bitCount_0f7a4_8 rfl ?_
  refine G_nmi (fun x1 hx1 => ?_)
  have hf := nm_eq hx1 hf
  refine G_istore_n h dJ6_bitCount_0f7a4_9 (i := 0) rfl (by decide) (L' := [some (.int x1)]) rfl rfl ?_
  refine G_iload_n h dJ6_bitCount_0f7a4_10 (i := 0) rfl rfl rfl ?_
  refine G_ldcw h q620 dJ6_bitCount_0f7a4_11 rfl ?_
  refine G_iand h dJ6_bitCount_0f7a4_14 rfl ?_
  refine G_iload_n h dJ6_bitCount_0f7a4_15 (i := 0) rfl rfl rfl ?_
  refine G_iconst h dJ6_bitCount_0f7a4_16 ki_2 rfl ?_
  refine G_iushr h dJ6_bitCount_0f7a4_17 rfl ?_
  refine G_ldcw h q620 dJ6_bitCount_0f7a4_18 rfl ?_
  refine G_iand h dJ6_bitCount_0f7a4_21 rfl ?_
  refine G_iadd h dJ6_bitCount_0f7a4_22 rfl ?_
  refine G_nmi (fun x2 hx2 => ?_)
  have hf := nm_eq hx2 hf
  refine G_istore_n h dJ6_bitCount_0f7a4_23 (i := 0) rfl (by decide) (L' := [some (.int x2)]) rfl rfl ?_
  refine G_iload_n h dJ6_bitCount_0f7a4_24 (i := 0) rfl rfl rfl ?_
  refine G_iload_n h dJ6_bitCount_0f7a4_25 (i := 0) rfl rfl rfl ?_
  refine G_iconst h dJ6_bitCount_0f7a4_26 ki_4 rfl ?_
  refine G_iushr h dJ6_bitCount_0f7a4_27 rfl ?_
  refine G_iadd h dJ6_bitCount_0f7a4_28 rfl ?_
  refine G_ldcw h q621 dJ6_bitCount_0f7a4_29 rfl ?_
  refine G_iand h dJ6_bitCount_0f7a4_32 rfl ?_
  refine G_nmi (fun x3 hx3 => ?_)
  have hf := nm_eq hx3 hf
  refine G_istore_n h dJ6_bitCount_0f7a4_33 (i := 0) rfl (by decide) (L' := [some (.int x3)]) rfl rfl ?_
  refine G_iload_n h dJ6_bitCount_0f7a4_34 (i := 0) rfl rfl rfl ?_
  refine G_iload_n h dJ6_bitCount_0f7a4_35 (i := 0) rfl rfl rfl ?_
  refine G_bipush h dJ6_bitCount_0f7a4_36 kb_8 rfl ?_
  refine G_iushr h dJ6_bitCount_0f7a4_38 rfl ?_
  refine G_iadd h dJ6_bitCount_0f7a4_39 rfl ?_
  refine G_nmi (fun x4 hx4 => ?_)
  have hf := nm_eq hx4 hf
  refine G_istore_n h dJ6_bitCount_0f7a4_40 (i := 0) rfl (by decide) (L' := [some (.int x4)]) rfl rfl ?_
  refine G_iload_n h dJ6_bitCount_0f7a4_41 (i := 0) rfl rfl rfl ?_
  refine G_iload_n h dJ6_bitCount_0f7a4_42 (i := 0) rfl rfl rfl ?_
  refine G_bipush h dJ6_bitCount_0f7a4_43 kb_16 rfl ?_
  refine G_iushr h dJ6_bitCount_0f7a4_45 rfl ?_
  refine G_iadd h dJ6_bitCount_0f7a4_46 rfl ?_
  refine G_nmi (fun x5 hx5 => ?_)
  have hf := nm_eq hx5 hf
  refine G_istore_n h dJ6_bitCount_0f7a4_47 (i := 0) rfl (by decide) (L' := [some (.int x5)]) rfl rfl ?_
  refine G_iload_n h dJ6_bitCount_0f7a4_48 (i := 0) rfl rfl rfl ?_
  refine G_bipush h dJ6_bitCount_0f7a4_49 kb_63 rfl ?_
  refine G_iand h dJ6_bitCount_0f7a4_51 rfl ?_
  exact toI hR dJ6_bitCount_0f7a4_52 hf
def rm_X5_knownTogether : Room := { frames := 1, cells := 0, slots := 0, locals := 20 }
def b_X5_knownTogether_L4 (E : Env1) (M : Mem) (k4 : Nat → Int32 → Int32 → (Option (Int32))) (v0 : Nat) (v1 : Int32) (v2 : Int32) : Option (Int32) :=
  if (6 : Int32) ≤ v2 then (some v1)
  else (
    gd v2 6 (nm (v1 + (f_J6_bitCount_0f7a4 E M (mi M (rr E v0 1) (ix v2)))) fun x3 =>
    k4 v0 x3 (v2 + 1)))
set_option maxRecDepth 100000 in
set_option maxHeartbeats 4000000 in
theorem ob_X5_knownTogether_L4 {X : Ctx} {l0 : Launch} {E : Env1} (h : Cx X l0 E RX5 cX5_knownTogether (some .int) 3 rm_X5_knownTogether) (hE : WF E) {M : Mem} {r : Int32} (hR : RetI X E cX5_knownTogether r M) {k4 : Nat → Int32 → Int32 → (Option (Int32))} (hk4 : ∀ (v0 : Nat) (v1 : Int32) (v2 : Int32), isK E v0 4 → k4 v0 v1 v2 = some r → G X E (0, 0) 4 [some (.ref v0), some (.int v1), some (.int v2)] [] M) {v0 : Nat} {v1 : Int32} {v2 : Int32} (h_v0 : isK E v0 4) (hf : b_X5_knownTogether_L4 E M k4 v0 v1 v2 = some r) : G X E (0, 0) 4 [some (.ref v0), some (.int v1), some (.int v2)] [] M := by
  unfold b_X5_knownTogether_L4 at hf
  refine G_iload_n h dX5_knownTogether_4 (i := 2) rfl rfl rfl ?_
  refine G_bipush h dX5_knownTogether_5 kb_6 rfl ?_
  refine G_icmp_ge h dX5_knownTogether_7 (tgt := 28) (by decide) rfl (fun c1 => ?_) (fun c1 => ?_)
  · have hf := it_t c1 hf
    refine G_iload_n h dX5_knownTogether_28 (i := 1) rfl rfl rfl ?_
    exact roI hR dX5_knownTogether_29 hf
  · have hf := it_f c1 hf
    refine G_iload_n h dX5_knownTogether_10 (i := 1) rfl rfl rfl ?_
    refine G_aload_n h dX5_knownTogether_11 (i := 0) rfl rfl rfl ?_
    refine gf_X5_15 h hE dX5_knownTogether_12 h_v0 rfl ?_
    refine G_iload_n h dX5_knownTogether_15 (i := 2) rfl rfl rfl ?_
    obtain ⟨g2, hf⟩ := gd_some hf
    refine G_iald h dX5_knownTogether_16 ((w_4_1 hE h_v0).2) g2 (jx := (ix v2)) rfl rfl ?_
    refine cl_X5_37 h (ok_J6_bitCount_0f7a4 hE _  (r := f_J6_bitCount_0f7a4 E M (mi M (rr E v0 1) (ix v2))) rfl) dX5_knownTogether_17 (as := [.int (mi M (rr E v0 1) (ix v2))]) rfl rfl ⟨rfl, rfl, Nat.le_of_ble_eq_true rfl, Nat.le_of_ble_eq_true rfl⟩ rfl (Nat.le_of_ble_eq_true rfl) ?_
    refine G_iadd h dX5_knownTogether_20 rfl ?_
    refine G_nmi (fun x3 hx3 => ?_)
    have hf := nm_eq hx3 hf
    refine G_istore_n h dX5_knownTogether_21 (i := 1) rfl (by decide) (L' := [some (.ref v0), some (.int x3), some (.int v2)]) rfl rfl ?_
    refine G_iinc2 h dX5_knownTogether_22 rfl ki_1 (by decide) (L' := [some (.ref v0), some (.int x3), some (.int (v2 + 1))]) rfl rfl ?_
    refine G_goto h dX5_knownTogether_25 (tgt := 4) (by decide) ?_
    exact hk4 _ _ _ h_v0 hf
def f_X5_knownTogether_L4 (E : Env1) (M : Mem) : Nat → Nat → Int32 → Int32 → (Option (Int32))
  | 0 => fun _ _ _ => none
  | n + 1 => b_X5_knownTogether_L4 E M (f_X5_knownTogether_L4 E M n)
theorem o_X5_knownTogether_L4 {X : Ctx} {l0 : Launch} {E : Env1} (h : Cx X l0 E RX5 cX5_knownTogether (some .int) 3 rm_X5_knownTogether) (hE : WF E) {M : Mem} {r : Int32} (hR : RetI X E cX5_knownTogether r M) : ∀ (n : Nat) (v0 : Nat) (v1 : Int32) (v2 : Int32), isK E v0 4 → f_X5_knownTogether_L4 E M n v0 v1 v2 = some r → G X E (0, 0) 4 [some (.ref v0), some (.int v1), some (.int v2)] [] M := by
  intro n
  induction n with
  | zero =>
    intro _ _ _ a0 hf
    have h0 : (none : Option (Int32)) = some r := hf
    cases h0
  | succ n ih =>
    intro _ _ _ a0 hf
    exact ob_X5_knownTogether_L4 h hE hR  ih a0 hf
def f_X5_knownTogether (E : Env1) (M : Mem) (v0 : Nat) : Option (Int32) :=
  f_X5_knownTogether_L4 E M FU v0 (0 : Int32) (0 : Int32)
set_option maxRecDepth 100000 in
set_option maxHeartbeats 4000000 in
theorem ok_X5_knownTogether {E : Env1} (hE : WF E) (l0 : Launch) {M : Mem} {v0 : Nat} {r : Int32} (h0 : isK E v0 4) (hf : f_X5_knownTogether E M v0 = some r) : Met l0 yX5_knownTogether (wsA yX5_knownTogether cX5_knownTogether 3 (some .int)) rm_X5_knownTogether (CP E M [.ref v0]) (CQi E r M) 0 0 (eA E) := by
  unfold f_X5_knownTogether at hf
  refine mtI l0 (by decide +kernel) (Nat.le_of_ble_eq_true rfl) (L0 := [some (.ref v0), none, none]) rfl (fun X h hR => ?_)
  refine G_iconst h dX5_knownTogether_0 ki_0 rfl ?_
  refine G_istore_n h dX5_knownTogether_1 (i := 1) rfl (by decide) (L' := [some (.ref v0), some (.int (0 : Int32)), none]) rfl rfl ?_
  refine G_iconst h dX5_knownTogether_2 ki_0 rfl ?_
  refine G_istore_n h dX5_knownTogether_3 (i := 2) rfl (by decide) (L' := [some (.ref v0), some (.int (0 : Int32)), some (.int (0 : Int32))]) rfl rfl ?_
  exact o_X5_knownTogether_L4 h hE hR  FU _ _ _ h0 hf
def rm_X5_passMinutes : Room := { frames := 2, cells := 0, slots := 0, locals := 46 }
def b_X5_passMinutes_L2 (E : Env1) (k2 : Mem → Nat → Int32 → Int32 → (Option (Mem))) (M : Mem) (v0 : Nat) (v1 : Int32) (v2 : Int32) : Option (Mem) :=
  if v1 ≤ v2 then (some M)
  else (
    if (9999 : Int32) ≤ (mi M v0 4) then (some M)
    else (
      (f_X5_passMinute E M v0).bind fun x3 =>
      k2 x3 v0 v1 (v2 + 1)))
set_option maxRecDepth 100000 in
set_option maxHeartbeats 4000000 in
theorem ob_X5_passMinutes_L2 {X : Ctx} {l0 : Launch} {E : Env1} (h : Cx X l0 E RX5 cX5_passMinutes none 3 rm_X5_passMinutes) (hE : WF E) {M' : Mem} (hR : RetV X E cX5_passMinutes M') {k2 : Mem → Nat → Int32 → Int32 → (Option (Mem))} (hk2 : ∀ (M : Mem) (v0 : Nat) (v1 : Int32) (v2 : Int32), isK E v0 4 → k2 M v0 v1 v2 = some (M') → G X E (0, 0) 2 [some (.ref v0), some (.int v1), some (.int v2)] [] M) {M : Mem} {v0 : Nat} {v1 : Int32} {v2 : Int32} (h_v0 : isK E v0 4) (hf : b_X5_passMinutes_L2 E k2 M v0 v1 v2 = some (M')) : G X E (0, 0) 2 [some (.ref v0), some (.int v1), some (.int v2)] [] M := by
  unfold b_X5_passMinutes_L2 at hf
  refine G_iload_n h dX5_passMinutes_2 (i := 2) rfl rfl rfl ?_
  refine G_iload_n h dX5_passMinutes_3 (i := 1) rfl rfl rfl ?_
  refine G_icmp_ge h dX5_passMinutes_4 (tgt := 27) (by decide) rfl (fun c1 => ?_) (fun c1 => ?_)
  · have hf := it_t c1 hf
    exact pwV hR dX5_passMinutes_27 hf
  · have hf := it_f c1 hf
    refine G_aload_n h dX5_passMinutes_7 (i := 0) rfl rfl rfl ?_
    refine gf_X5_30 h dX5_passMinutes_8 h_v0 rfl ?_
    refine G_sipush h dX5_passMinutes_11 ks_9999 rfl ?_
    refine G_icmp_ge h dX5_passMinutes_14 (tgt := 27) (by decide) rfl (fun c2 => ?_) (fun c2 => ?_)
    · have hf := it_t c2 hf
      exact pwV hR dX5_passMinutes_27 hf
    · have hf := it_f c2 hf
      refine G_aload_n h dX5_passMinutes_17 (i := 0) rfl rfl rfl ?_
      obtain ⟨x3, hx3, hf⟩ := bd hf
      refine cl_X5_46 h (ok_X5_passMinute hE _ h_v0 hx3) dX5_passMinutes_18 h_v0 (as := []) rfl rfl ⟨rfl, rfl, Nat.le_of_ble_eq_true rfl, Nat.le_of_ble_eq_true rfl⟩ rfl (Nat.le_of_ble_eq_true rfl) ?_
      refine G_iinc2 h dX5_passMinutes_21 rfl ki_1 (by decide) (L' := [some (.ref v0), some (.int v1), some (.int (v2 + 1))]) rfl rfl ?_
      refine G_goto h dX5_passMinutes_24 (tgt := 2) (by decide) ?_
      exact hk2 _ _ _ _ h_v0 hf
def f_X5_passMinutes_L2 (E : Env1) : Nat → Mem → Nat → Int32 → Int32 → (Option (Mem))
  | 0 => fun _ _ _ _ => none
  | n + 1 => b_X5_passMinutes_L2 E (f_X5_passMinutes_L2 E n)
theorem o_X5_passMinutes_L2 {X : Ctx} {l0 : Launch} {E : Env1} (h : Cx X l0 E RX5 cX5_passMinutes none 3 rm_X5_passMinutes) (hE : WF E) {M' : Mem} (hR : RetV X E cX5_passMinutes M') : ∀ (n : Nat) (M : Mem) (v0 : Nat) (v1 : Int32) (v2 : Int32), isK E v0 4 → f_X5_passMinutes_L2 E n M v0 v1 v2 = some (M') → G X E (0, 0) 2 [some (.ref v0), some (.int v1), some (.int v2)] [] M := by
  intro n
  induction n with
  | zero =>
    intro _ _ _ _ a0 hf
    have h0 : (none : Option (Mem)) = some (M') := hf
    cases h0
  | succ n ih =>
    intro _ _ _ _ a0 hf
    exact ob_X5_passMinutes_L2 h hE hR  ih a0 hf
def f_X5_passMinutes (E : Env1) (M : Mem) (v0 : Nat) (v1 : Int32) : Option (Mem) :=
  f_X5_passMinutes_L2 E FU M v0 v1 (0 : Int32)
set_option maxRecDepth 100000 in
set_option maxHeartbeats 4000000 in
theorem ok_X5_passMinutes {E : Env1} (hE : WF E) (l0 : Launch) {M : Mem} {M' : Mem} {v0 : Nat} {v1 : Int32} (h0 : isK E v0 4) (hf : f_X5_passMinutes E M v0 v1 = some (M')) : Met l0 yX5_passMinutes (wsA yX5_passMinutes cX5_passMinutes 3 none) rm_X5_passMinutes (CP E M [.ref v0, .int v1]) (CQv E M') 0 0 (eA E) := by
  unfold f_X5_passMinutes at hf
  refine mtV l0 (by decide +kernel) (Nat.le_of_ble_eq_true rfl) (L0 := [some (.ref v0), some (.int v1), none]) rfl (fun X h hR => ?_)
  refine G_iconst h dX5_passMinutes_0 ki_0 rfl ?_
  refine G_istore_n h dX5_passMinutes_1 (i := 2) rfl (by decide) (L' := [some (.ref v0), some (.int v1), some (.int (0 : Int32))]) rfl rfl ?_
  exact o_X5_passMinutes_L2 h hE hR  FU _ _ _ _ h0 hf
def rm_X5_putIn : Room := { frames := 0, cells := 0, slots := 0, locals := 0 }
def b_X5_putIn_L9 (E : Env1) (k9 : Mem → Nat → Int32 → Int32 → (Option (Mem))) (M : Mem) (v0 : Nat) (v1 : Int32) (v3 : Int32) : Option (Mem) :=
  if (6 : Int32) ≤ v3 then (some M)
  else (
    gd v3 6 (nm (wi M (rr E v0 1) (ix v3) ((mi M (rr E v0 1) (ix v3)) &&& (((1 : Int32) <<< (v1 &&& 31)) ^^^ (-1 : Int32)))) fun M3 =>
    k9 M3 v0 v1 (v3 + 1)))
set_option maxRecDepth 100000 in
set_option maxHeartbeats 4000000 in
theorem ob_X5_putIn_L9 {X : Ctx} {l0 : Launch} {E : Env1} (h : Cx X l0 E RX5 cX5_putIn none 4 rm_X5_putIn) (hE : WF E) {M' : Mem} (hR : RetV X E cX5_putIn M') {k9 : Mem → Nat → Int32 → Int32 → (Option (Mem))} (hk9 : ∀ (M : Mem) (v0 : Nat) (v1 : Int32) (v3 : Int32), isK E v0 4 → k9 M v0 v1 v3 = some (M') → G X E (0, 0) 9 [some (.ref v0), some (.int v1), none, some (.int v3)] [] M) {M : Mem} {v0 : Nat} {v1 : Int32} {v3 : Int32} (h_v0 : isK E v0 4) (hf : b_X5_putIn_L9 E k9 M v0 v1 v3 = some (M')) : G X E (0, 0) 9 [some (.ref v0), some (.int v1), none, some (.int v3)] [] M := by
  unfold b_X5_putIn_L9 at hf
  refine G_iload_n h dX5_putIn_9 (i := 3) rfl rfl rfl ?_
  refine G_bipush h dX5_putIn_10 kb_6 rfl ?_
  refine G_icmp_ge h dX5_putIn_12 (tgt := 35) (by decide) rfl (fun c1 => ?_) (fun c1 => ?_)
  · have hf := it_t c1 hf
    exact pwV hR dX5_putIn_35 hf
  · have hf := it_f c1 hf
    refine G_aload_n h dX5_putIn_15 (i := 0) rfl rfl rfl ?_
    refine gf_X5_15 h hE dX5_putIn_16 h_v0 rfl ?_
    refine G_iload_n h dX5_putIn_19 (i := 3) rfl rfl rfl ?_
    refine G_dup2 h dX5_putIn_20 rfl rfl rfl ?_
    obtain ⟨g2, hf⟩ := gd_some hf
    refine G_iald h dX5_putIn_21 ((w_4_1 hE h_v0).2) g2 (jx := (ix v3)) rfl rfl ?_
    refine G_iconst h dX5_putIn_22 ki_1 rfl ?_
    refine G_iload_n h dX5_putIn_23 (i := 1) rfl rfl rfl ?_
    refine G_ishl h dX5_putIn_24 rfl ?_
    refine G_iconst h dX5_putIn_25 ki_m1 rfl ?_
    refine G_ixor h dX5_putIn_26 rfl ?_
    refine G_iand h dX5_putIn_27 rfl ?_
    refine G_iast h dX5_putIn_28 ((w_4_1 hE h_v0).2) g2 (jx := (ix v3)) rfl rfl ?_
    refine G_nmM (fun M3 hM3 => ?_)
    have hf := nm_eq hM3 hf
    refine G_iinc2 h dX5_putIn_29 rfl ki_1 (by decide) (L' := [some (.ref v0), some (.int v1), none, some (.int (v3 + 1))]) rfl rfl ?_
    refine G_goto h dX5_putIn_32 (tgt := 9) (by decide) ?_
    exact hk9 _ _ _ _ h_v0 hf
def f_X5_putIn_L9 (E : Env1) : Nat → Mem → Nat → Int32 → Int32 → (Option (Mem))
  | 0 => fun _ _ _ _ => none
  | n + 1 => b_X5_putIn_L9 E (f_X5_putIn_L9 E n)
theorem o_X5_putIn_L9 {X : Ctx} {l0 : Launch} {E : Env1} (h : Cx X l0 E RX5 cX5_putIn none 4 rm_X5_putIn) (hE : WF E) {M' : Mem} (hR : RetV X E cX5_putIn M') : ∀ (n : Nat) (M : Mem) (v0 : Nat) (v1 : Int32) (v3 : Int32), isK E v0 4 → f_X5_putIn_L9 E n M v0 v1 v3 = some (M') → G X E (0, 0) 9 [some (.ref v0), some (.int v1), none, some (.int v3)] [] M := by
  intro n
  induction n with
  | zero =>
    intro _ _ _ _ a0 hf
    have h0 : (none : Option (Mem)) = some (M') := hf
    cases h0
  | succ n ih =>
    intro _ _ _ _ a0 hf
    exact ob_X5_putIn_L9 h hE hR  ih a0 hf
def f_X5_putIn (E : Env1) (M : Mem) (v0 : Nat) (v1 : Int32) (v2 : Int32) : Option (Mem) :=
  gd v1 8 (f_X5_putIn_L9 E FU (wi M (rr E v0 0) (ix v1) v2) v0 v1 (0 : Int32))
set_option maxRecDepth 100000 in
set_option maxHeartbeats 4000000 in
theorem ok_X5_putIn {E : Env1} (hE : WF E) (l0 : Launch) {M : Mem} {M' : Mem} {v0 : Nat} {v1 : Int32} {v2 : Int32} (h0 : isK E v0 4) (hf : f_X5_putIn E M v0 v1 v2 = some (M')) : Met l0 yX5_putIn (wsA yX5_putIn cX5_putIn 4 none) rm_X5_putIn (CP E M [.ref v0, .int v1, .int v2]) (CQv E M') 0 0 (eA E) := by
  unfold f_X5_putIn at hf
  refine mtV l0 (by decide +kernel) (Nat.le_of_ble_eq_true rfl) (L0 := [some (.ref v0), some (.int v1), some (.int v2), none]) rfl (fun X h hR => ?_)
  refine G_aload_n h dX5_putIn_0 (i := 0) rfl rfl rfl ?_
  refine gf_X5_9 h hE dX5_putIn_1 h0 rfl ?_
  refine G_iload_n h dX5_putIn_4 (i := 1) rfl rfl rfl ?_
  refine G_iload_n h dX5_putIn_5 (i := 2) rfl rfl rfl ?_
  obtain ⟨g1, hf⟩ := gd_some hf
  refine G_iast h dX5_putIn_6 ((w_4_0 hE h0).2) g1 (jx := (ix v1)) rfl rfl ?_
  refine G_iconst h dX5_putIn_7 ki_0 rfl ?_
  refine G_istore_n h dX5_putIn_8 (i := 3) rfl (by decide) (L' := [some (.ref v0), some (.int v1), some (.int v2), some (.int (0 : Int32))]) rfl rfl ?_
  refine G_mskL [true, true, false, true] (L' := [some (.ref v0), some (.int v1), none, some (.int (0 : Int32))]) rfl ?_
  exact o_X5_putIn_L9 h hE hR  FU _ _ _ _ h0 hf
def rm_X5_stayAt : Room := { frames := 1, cells := 0, slots := 0, locals := 22 }
def f_X5_stayAt (E : Env1) (M : Mem) (v0 : Nat) (v1 : Int32) (v2 : Int32) : Option (Mem) :=
  if (f_X8_within E M v1 (0 : Int32) (5 : Int32)) = 0 then (some M)
  else (gd v1 6 (some (wi M (rr E v0 2) (ix v1) v2)))
set_option maxRecDepth 100000 in
set_option maxHeartbeats 4000000 in
theorem ok_X5_stayAt {E : Env1} (hE : WF E) (l0 : Launch) {M : Mem} {M' : Mem} {v0 : Nat} {v1 : Int32} {v2 : Int32} (h0 : isK E v0 4) (hf : f_X5_stayAt E M v0 v1 v2 = some (M')) : Met l0 yX5_stayAt (wsA yX5_stayAt cX5_stayAt 3 none) rm_X5_stayAt (CP E M [.ref v0, .int v1, .int v2]) (CQv E M') 0 0 (eA E) := by
  unfold f_X5_stayAt at hf
  refine mtV l0 (by decide +kernel) (Nat.le_of_ble_eq_true rfl) (L0 := [some (.ref v0), some (.int v1), some (.int v2)]) rfl (fun X h hR => ?_)
  refine G_iload_n h dX5_stayAt_0 (i := 1) rfl rfl rfl ?_
  refine G_iconst h dX5_stayAt_1 ki_0 rfl ?_
  refine G_iconst h dX5_stayAt_2 ki_5 rfl ?_
  refine cl_X5_49 h (ok_X8_within hE _  (r := f_X8_within E M v1 (0 : Int32) (5 : Int32)) rfl) dX5_stayAt_3 (as := [.int v1, .int (0 : Int32), .int (5 : Int32)]) rfl rfl ⟨rfl, rfl, Nat.le_of_ble_eq_true rfl, Nat.le_of_ble_eq_true rfl⟩ rfl (Nat.le_of_ble_eq_true rfl) (fun z1 => ?_)
  refine G_if_eq h dX5_stayAt_6 (tgt := 16) (by decide) rfl (fun c2 => ?_) (fun c2 => ?_)
  · have hf := it_t c2 hf
    exact pwV hR dX5_stayAt_16 hf
  · have hf := it_f c2 hf
    refine G_aload_n h dX5_stayAt_9 (i := 0) rfl rfl rfl ?_
    refine gf_X5_18 h hE dX5_stayAt_10 h0 rfl ?_
    refine G_iload_n h dX5_stayAt_13 (i := 1) rfl rfl rfl ?_
    refine G_iload_n h dX5_stayAt_14 (i := 2) rfl rfl rfl ?_
    obtain ⟨g3, hf⟩ := gd_some hf
    refine G_iast h dX5_stayAt_15 ((w_4_2 hE h0).2) g3 (jx := (ix v1)) rfl rfl ?_
    exact pwV hR dX5_stayAt_16 hf
def rm_X5_walk : Room := { frames := 2, cells := 0, slots := 0, locals := 44 }
def f_X5_walk (E : Env1) (M : Mem) (v0 : Nat) (v1 : Int32) (v2 : Int32) : Option (Mem) :=
  gd v1 6 (if v2 = 0 then (some (wi M (rr E v0 2) (ix v1) ((mi M (rr E v0 2) (ix v1)) - (1 : Int32))))
  else (
    (f_X5_bearsAbove E M v0 v1 (mi M (rr E v0 2) (ix v1))).bind fun x4 =>
    if x4 = 0 then (some M)
    else (some (wi M (rr E v0 2) (ix v1) ((mi M (rr E v0 2) (ix v1)) + (1 : Int32))))))
set_option maxRecDepth 100000 in
set_option maxHeartbeats 4000000 in
theorem ok_X5_walk {E : Env1} (hE : WF E) (l0 : Launch) {M : Mem} {M' : Mem} {v0 : Nat} {v1 : Int32} {v2 : Int32} (h0 : isK E v0 4) (hf : f_X5_walk E M v0 v1 v2 = some (M')) : Met l0 yX5_walk (wsA yX5_walk cX5_walk 4 none) rm_X5_walk (CP E M [.ref v0, .int v1, .int v2]) (CQv E M') 0 0 (eA E) := by
  unfold f_X5_walk at hf
  refine mtV l0 (by decide +kernel) (Nat.le_of_ble_eq_true rfl) (L0 := [some (.ref v0), some (.int v1), some (.int v2), none]) rfl (fun X h hR => ?_)
  refine G_aload_n h dX5_walk_0 (i := 0) rfl rfl rfl ?_
  refine gf_X5_18 h hE dX5_walk_1 h0 rfl ?_
  refine G_iload_n h dX5_walk_4 (i := 1) rfl rfl rfl ?_
  obtain ⟨g1, hf⟩ := gd_some hf
  refine G_iald h dX5_walk_5 ((w_4_2 hE h0).2) g1 (jx := (ix v1)) rfl rfl ?_
  refine G_istore_n h dX5_walk_6 (i := 3) rfl (by decide) (L' := [some (.ref v0), some (.int v1), some (.int v2), some (.int (mi M (rr E v0 2) (ix v1)))]) rfl rfl ?_
  refine G_iload_n h dX5_walk_7 (i := 2) rfl rfl rfl ?_
  refine G_if_ne h dX5_walk_8 (tgt := 23) (by decide) rfl (fun c2 => ?_) (fun c2 => ?_)
  · have hf := it_f c2 hf
    refine G_aload_n h dX5_walk_23 (i := 0) rfl rfl rfl ?_
    refine G_iload_n h dX5_walk_24 (i := 1) rfl rfl rfl ?_
    refine G_iload_n h dX5_walk_25 (i := 3) rfl rfl rfl ?_
    obtain ⟨x4, hx4, hf⟩ := bd hf
    refine cl_X5_53 h (ok_X5_bearsAbove hE _ h0 hx4) dX5_walk_26 h0 (as := [.int v1, .int (mi M (rr E v0 2) (ix v1))]) rfl rfl ⟨rfl, rfl, Nat.le_of_ble_eq_true rfl, Nat.le_of_ble_eq_true rfl⟩ rfl (Nat.le_of_ble_eq_true rfl) (fun z3 => ?_)
    refine G_if_eq h dX5_walk_29 (tgt := 41) (by decide) rfl (fun c5 => ?_) (fun c5 => ?_)
    · have hf := it_t c5 hf
      exact pwV hR dX5_walk_41 hf
    · have hf := it_f c5 hf
      refine G_aload_n h dX5_walk_32 (i := 0) rfl rfl rfl ?_
      refine gf_X5_18 h hE dX5_walk_33 h0 rfl ?_
      refine G_iload_n h dX5_walk_36 (i := 1) rfl rfl rfl ?_
      refine G_iload_n h dX5_walk_37 (i := 3) rfl rfl rfl ?_
      refine G_iconst h dX5_walk_38 ki_1 rfl ?_
      refine G_iadd h dX5_walk_39 rfl ?_
      refine G_iast h dX5_walk_40 ((w_4_2 hE h0).2) g1 (jx := (ix v1)) rfl rfl ?_
      exact pwV hR dX5_walk_41 hf
  · have hf := it_t c2 hf
    refine G_aload_n h dX5_walk_11 (i := 0) rfl rfl rfl ?_
    refine gf_X5_18 h hE dX5_walk_12 h0 rfl ?_
    refine G_iload_n h dX5_walk_15 (i := 1) rfl rfl rfl ?_
    refine G_iload_n h dX5_walk_16 (i := 3) rfl rfl rfl ?_
    refine G_iconst h dX5_walk_17 ki_1 rfl ?_
    refine G_isub h dX5_walk_18 rfl ?_
    refine G_iast h dX5_walk_19 ((w_4_2 hE h0).2) g1 (jx := (ix v1)) rfl rfl ?_
    refine G_goto h dX5_walk_20 (tgt := 41) (by decide) ?_
    exact pwV hR dX5_walk_41 hf
def rm_X8_isStep : Room := { frames := 1, cells := 0, slots := 0, locals := 22 }
def f_X8_isStep (E : Env1) (M : Mem) (v0 : Int32) : Int32 :=
  f_X8_within E M v0 (0 : Int32) (7 : Int32)
set_option maxRecDepth 100000 in
set_option maxHeartbeats 4000000 in
theorem ok_X8_isStep {E : Env1} (hE : WF E) (l0 : Launch) {M : Mem} {v0 : Int32} {r : Int32}  (hf : f_X8_isStep E M v0 = r) : Met l0 yX8_isStep (wsA yX8_isStep cX8_isStep 1 (some .boolean)) rm_X8_isStep (CP E M [.int v0]) (CQz E r M) 0 0 (eA E) := by
  unfold f_X8_isStep at hf
  refine mtZ l0 (by decide +kernel) (Nat.le_of_ble_eq_true rfl) (L0 := [some (.int v0)]) rfl (fun X h hR => ?_)
  refine G_iload_n h dX8_isStep_0 (i := 0) rfl rfl rfl ?_
  refine G_iconst h dX8_isStep_1 ki_0 rfl ?_
  refine G_bipush h dX8_isStep_2 kb_7 rfl ?_
  refine cl_X8_64 h (ok_X8_within hE _  (r := f_X8_within E M v0 (0 : Int32) (7 : Int32)) rfl) dX8_isStep_4 (as := [.int v0, .int (0 : Int32), .int (7 : Int32)]) rfl rfl ⟨rfl, rfl, Nat.le_of_ble_eq_true rfl, Nat.le_of_ble_eq_true rfl⟩ rfl (Nat.le_of_ble_eq_true rfl) (fun z1 => ?_)
  exact toZ hR dX8_isStep_7 z1 hf
end
