/-! deeds, and the plan -/
section Al57
variable {E : Env1} {ad : Nat → Nat} {M M1 M2 M8 M9 : Mem} {h : Ho} {i : Nat}
theorem lt_sp (hN : Nm E (ad 50) (ad 0) ad) {lk n r d : Nat} (hn : n ≤ 40) (hr : r < 256) (hs : Sub r lk) (hd : d < n) (st : LaT ad M h i lk n 0) : ∃ b : Bool, f_X3_leavesTime E M (ad 60) (nI r) (nI d) = some (if b then 1 else 0) ∧ (b = true ↔ can (gB h i) (n - d - 1) (d + 1) (wo lk r)) := by
  obtain ⟨u, hu, hm, hx⟩ := st r (Nat.zero_le _) hr
  have hx2 := (hx hs).2 (d + 1) (by omega)
  rw [show n - (d + 1) = n - d - 1 by omega] at hx2
  unfold f_X3_leavesTime
  rw [wi_t (b := 0) (c := 255) ⟨nI_pos' (by omega), nI_le (a := r) (b := 255) (by omega) (by decide)⟩, if_neg I10, gd_nI hr (by decide), ix_nI (by omega), n_63 hN, hm]
  simp only [lea1 u (by omega) d (by omega)]
  by_cases e : u ≤ d + 1
  · rw [if_pos e]
    exact ⟨false, rfl, fun z => absurd z ft1, fun z => by have := hx2.mpr z; omega⟩
  · rw [if_neg e]
    exact ⟨true, rfl, fun _ => hx2.mp (by omega), fun _ => rfl⟩
/-- a step that may be met in minute d, time enough being left -/
def fitA (h : Ho) (i n d R s : Nat) : Prop := R.testBit s = true ∧ gB h i d s = true ∧ can (gB h i) (n - d - 1) (d + 1) (wo R (2 ^ s))
theorem fitA_ex {n d R : Nat} (hd : d < n) (hc : can (gB h i) (n - d) d R) (hw : ¬ can (gB h i) (n - d - 1) (d + 1) R) : ∃ s, s < 8 ∧ fitA h i n d R s := by
  rw [show n - d = n - d - 1 + 1 by omega] at hc
  rcases hc with z | ⟨s, h1, h2⟩
  · exact absurd z hw
  · exact ⟨s, h1, h2⟩
theorem fd8 (hN : Nm E (ad 50) (ad 0) ad) {lk n met d : Nat} (hn : n ≤ 40) (hl : lk < 256) (hr : met < 256) (hs : Sub met lk) (hd : d < n) (mc : MC ad M h i lk) (st : LaT ad M h i lk n 0) (hc : can (gB h i) (n - d) d (wo lk met)) : (can (gB h i) (n - d - 1) (d + 1) (wo lk met) ∧ f_X3_firstDeed E M (ad 60) (nI met) (nI d) = some (-1)) ∨ (¬ can (gB h i) (n - d - 1) (d + 1) (wo lk met) ∧ ∃ s, s < 8 ∧ fitA h i n d (wo lk met) s ∧ (∀ s', s' < s → ¬ fitA h i n d (wo lk met) s') ∧ f_X3_firstDeed E M (ad 60) (nI met) (nI d) = some (nI s)) := by
  obtain ⟨b, e, hb⟩ := lt_sp hN hn hr hs hd st
  unfold f_X3_firstDeed
  rw [e, Option.bind_some]
  cases b
  · rw [if_neg ft1, if_pos rfl]
    have hw : ¬ can (gB h i) (n - d - 1) (d + 1) (wo lk met) := fun z => absurd (hb.mpr z) ft1
    refine Or.inr ⟨hw, ?_⟩
    refine loop_QFU (fun q (_ : Unit) w => f_X3_firstDeed_L13 E M q (ad 60) (nI met) (nI d) w) (fun j _ => ∀ s', s' < j → ¬ fitA h i n d (wo lk met) s') (fun y => ∃ s, s < 8 ∧ fitA h i n d (wo lk met) s ∧ (∀ s', s' < s → ¬ fitA h i n d (wo lk met) s') ∧ y = some (nI s)) 8 (by decide) () (fun s hs => absurd hs (Nat.not_lt_zero _)) ?_ ?_
    · intro q j _ hj hx
      show (∃ s', b_X3_firstDeed_L13 E M (f_X3_firstDeed_L13 E M q) (ad 60) (nI met) (nI d) (nI j) = f_X3_firstDeed_L13 E M q (ad 60) (nI met) (nI d) (nI (j + 1)) ∧ _) ∨ ∃ s, s < 8 ∧ fitA h i n d (wo lk met) s ∧ _ ∧ b_X3_firstDeed_L13 E M (f_X3_firstDeed_L13 E M q) (ad 60) (nI met) (nI d) (nI j) = _
      unfold b_X3_firstDeed_L13
      have hset : setOf 8 (mcB h i lk d) < 2 ^ 8 := set_lt 8 _
      have hwo : wo (setOf 8 (mcB h i lk d)) met < 2 ^ 8 := wo_lt hset
      have hle : wo (setOf 8 (mcB h i lk d)) met &&& 2 ^ j ≤ wo (setOf 8 (mcB h i lk d)) met := Nat.and_le_left
      have nx : ¬ fitA h i n d (wo lk met) j → ∀ s', s' < j + 1 → ¬ fitA h i n d (wo lk met) s' := fun z s' hs' => by
        by_cases e : s' = j
        · subst e; exact z
        · exact hx s' (by omega)
      rw [if_neg (lt8 hj), gd_nI (by omega) (by decide), ix_nI (by omega), n_61 hN, mc.2 d (by omega), nI_wo, shl1 (by omega), nI_and, nI_or, nI_1]
      simp only [nIe0 (show wo (setOf 8 (mcB h i lk d)) met &&& 2 ^ j < 2 ^ 31 by omega), and_pow, tb_wo, mc_tb hj]
      cases g : (lk.testBit j && gB h i d j && !met.testBit j)
      · rw [if_pos rfl]
        refine Or.inl ⟨(), rfl, nx (fun z => ?_)⟩
        have z1 := z.1
        rw [tb_wo] at z1
        have z2 := Bool.and_eq_true_iff.mp z1
        rw [z2.1, z2.2, z.2.1] at g
        exact absurd g (by decide)
      · rw [if_neg (by decide)]
        obtain ⟨g1, g3⟩ := Bool.and_eq_true_iff.mp g
        obtain ⟨g1, g2⟩ := Bool.and_eq_true_iff.mp g1
        have hor : met ||| 2 ^ j < 256 := or_lt (n := 8) hr (Nat.pow_lt_pow_right (by decide) hj)
        have hsw : Sub (met ||| 2 ^ j) lk := fun s q => by
          rw [Nat.testBit_or, Nat.testBit_two_pow] at q
          rcases Bool.or_eq_true_iff.mp q with q | q
          · exact hs s q
          · have := of_decide_eq_true q
            subst this; exact g1
        obtain ⟨b', e', hb'⟩ := lt_sp hN hn hor hsw hd st
        rw [wo_or] at hb'
        rw [e', Option.bind_some]
        cases b'
        · rw [if_neg ft1, if_pos rfl]
          exact Or.inl ⟨(), rfl, nx (fun z => absurd (hb'.mpr z.2.2) ft1)⟩
        · rw [if_pos rfl, if_neg I10]
          exact Or.inr ⟨j, hj, ⟨by rw [tb_wo, g1, g3]; rfl, g2, hb'.mp rfl⟩, hx, rfl⟩
    · intro q _ hx
      obtain ⟨s, h1, h2⟩ := fitA_ex hd hc hw
      exact absurd h2 (hx s h1)
  · rw [if_pos rfl, if_neg I10]
    exact Or.inl ⟨hb.mp rfl, rfl⟩
theorem do9 (hN : Nm E (ad 50) (ad 0) ad) (r : RO ad M h) (G : GC ad M h i) (hT : sT (oS h) ≤ 9999) {n d R : Nat} (hn : n ≤ 40) (hR : R < 256) (hd : d < n) (tt : TBL ad M h i n) (hc : can (gB h i) (n - d) d R) : (can (gB h i) (n - d - 1) (d + 1) R ∧ f_X9_does E M (ad 0) (nI d) (nI R) = some (-1)) ∨ (¬ can (gB h i) (n - d - 1) (d + 1) R ∧ ∃ s, s < 8 ∧ fitA h i n d R s ∧ (∀ s', s' < s → ¬ fitA h i n d R s') ∧ f_X9_does E M (ad 0) (nI d) (nI R) = some (nI s)) := by
  have hB : ∀ R, R < 256 → (tb ad M (d + 1) R = true ↔ can (gB h i) (n - d - 1) (d + 1) R) := fun R hR => by
    have := tt (d + 1) R (by omega) hR
    rwa [show n - (d + 1) = n - d - 1 by omega] at this
  unfold f_X9_does
  rw [nI_1, isMay_eq hN (by omega) hR, Option.bind_some]
  cases b : tb ad M (d + 1) R
  · rw [if_neg ft1, if_pos rfl]
    have hw : ¬ can (gB h i) (n - d - 1) (d + 1) R := fun z => by
      have := (hB R hR).mpr z
      rw [b] at this
      exact absurd this ft1
    refine Or.inr ⟨hw, ?_⟩
    refine loop_QFU (fun q (_ : Unit) w => f_X9_does_L15 E M q (ad 0) (nI d) (nI R) w) (fun j _ => ∀ s', s' < j → ¬ fitA h i n d R s') (fun y => ∃ s, s < 8 ∧ fitA h i n d R s ∧ (∀ s', s' < s → ¬ fitA h i n d R s') ∧ y = some (nI s)) 8 (by decide) () (fun s hs => absurd hs (Nat.not_lt_zero _)) ?_ ?_
    · intro q j _ hj hx
      show (∃ s', b_X9_does_L15 E M (f_X9_does_L15 E M q) (ad 0) (nI d) (nI R) (nI j) = f_X9_does_L15 E M q (ad 0) (nI d) (nI R) (nI (j + 1)) ∧ _) ∨ ∃ s, s < 8 ∧ fitA h i n d R s ∧ _ ∧ b_X9_does_L15 E M (f_X9_does_L15 E M q) (ad 0) (nI d) (nI R) (nI j) = _
      unfold b_X9_does_L15
      have hidx : (sT (oS h) + d) % 24 < 24 := Nat.mod_lt _ (by decide)
      have hset : setOf 8 (gD h i ((sT (oS h) + d) % 24)) < 2 ^ 8 := set_lt 8 _
      have hand : R &&& setOf 8 (gD h i ((sT (oS h) + d) % 24)) ≤ R := Nat.and_le_left
      have hwo : wo R (2 ^ j) < 256 := wo_lt (n := 8) hR
      have nx : ¬ fitA h i n d R j → ∀ s', s' < j + 1 → ¬ fitA h i n d R s' := fun z s' hs' => by
        by_cases e : s' = j
        · subst e; exact z
        · exact hx s' (by omega)
      rw [r.2.2.2.1, nI_add, rem24 (by omega), gd_nI hidx (by decide), ix_nI (by omega), n_24 hN, G _ hidx, nI_and, has_eq (by omega) (by omega), nI_1, nI_1, shl1 (by omega), nI_wo, isMay_eq hN (by omega) hwo, Option.bind_some, Nat.testBit_and, tb_set, decide_eq_true hj, Bool.true_and]
      simp only [fl01]
      cases h1 : (R.testBit j && gD h i ((sT (oS h) + d) % 24) j)
      · rw [if_pos rfl]
        refine Or.inl ⟨(), rfl, nx (fun z => ?_)⟩
        have b' : gD h i ((sT (oS h) + d) % 24) j = true := z.2.1
        rw [z.1, b'] at h1
        exact absurd h1 (by decide)
      · obtain ⟨a, b'⟩ := Bool.and_eq_true_iff.mp h1
        rw [if_neg (by decide)]
        cases h2 : tb ad M (d + 1) (wo R (2 ^ j))
        · rw [if_pos rfl]
          refine Or.inl ⟨(), rfl, nx (fun z => ?_)⟩
          have := (hB _ hwo).mpr z.2.2
          rw [h2] at this
          exact absurd this ft1
        · rw [if_neg (by decide)]
          exact Or.inr ⟨j, hj, ⟨a, b', (hB _ hwo).mp h2⟩, hx, rfl⟩
    · intro q _ hx
      obtain ⟨s, h1, h2⟩ := fitA_ex hd hc hw
      exact absurd h2 (hx s h1)
  · rw [if_pos rfl, if_neg I10]
    exact Or.inl ⟨(hB R hR).mp b, rfl⟩
theorem nm1 : ∀ s, s < 8 → ¬ nI s = (-1 : Int32) := by decide
theorem and_m1 (R : Nat) : nI R &&& (-1 : Int32) = nI R := by
  have := nI_wo R 0
  rw [show nI 0 ^^^ (-1 : Int32) = -1 by decide] at this
  rw [this]
  congr 1
  exact eq_tb fun t => by rw [tb_wo, Nat.zero_testBit]; simp
theorem deeds (hN : Nm E (ad 50) (ad 0) ad) (r : RO ad M9 h) (G : GC ad M9 h i) (hT : sT (oS h) ≤ 9999) {lk n k : Nat} (hn : n ≤ 40) (hl : lk < 256) (hk : k < n) (mc : MC ad M8 h i lk) (hlen : mi M8 (ad 60) 4 = nI n) (st : LaT ad M8 h i lk n 0) (tt : TBL ad M9 h i n) : ∀ q d met v f8 f9, q < f8 → q < f9 → d + q = k + 1 → Sub met lk → met < 256 → can (gB h i) (n - d) d (wo lk met) → ∃ a, f_X3_deed_L32 E f8 M8 (ad 60) (nI k) (nI met) v (nI d) = some (a, M8) ∧ f_X9_plan_L241 E f9 M9 (ad 0) (nI k) (nI (wo lk met)) v (nI d) = some (a, M9) := by
  intro q
  induction q with
  | zero =>
    intro d met v f8 f9 h8 h9 hd _ _ _
    obtain ⟨f8, rfl⟩ : ∃ f', f8 = f' + 1 := ⟨f8 - 1, by omega⟩
    obtain ⟨f9, rfl⟩ : ∃ f', f9 = f' + 1 := ⟨f9 - 1, by omega⟩
    refine ⟨v, ?_, ?_⟩
    · show b_X3_deed_L32 E (f_X3_deed_L32 E f8) M8 (ad 60) (nI k) (nI met) v (nI d) = _
      unfold b_X3_deed_L32
      rw [if_pos (nI_lt (by omega) (by omega))]
    · show b_X9_plan_L241 E (f_X9_plan_L241 E f9) M9 (ad 0) (nI k) (nI (wo lk met)) v (nI d) = _
      unfold b_X9_plan_L241
      rw [if_pos (nI_lt (by omega) (by omega))]
  | succ q ih =>
    intro d met v f8 f9 h8 h9 hd hs hm hc
    obtain ⟨f8, rfl⟩ : ∃ f', f8 = f' + 1 := ⟨f8 - 1, by omega⟩
    obtain ⟨f9, rfl⟩ : ∃ f', f9 = f' + 1 := ⟨f9 - 1, by omega⟩
    show ∃ a, b_X3_deed_L32 E (f_X3_deed_L32 E f8) M8 (ad 60) (nI k) (nI met) v (nI d) = _ ∧ b_X9_plan_L241 E (f_X9_plan_L241 E f9) M9 (ad 0) (nI k) (nI (wo lk met)) v (nI d) = _
    unfold b_X3_deed_L32 b_X9_plan_L241
    rw [if_neg (nI_nlt (a := k) (b := d) (by omega) (by omega)), if_neg (nI_nlt (a := k) (b := d) (by omega) (by omega)), hlen, if_neg (nI_ge (a := d) (b := n) (by omega) (by omega)), if_neg (show ¬ (40 : Int32) ≤ nI d from nI_ge (a := d) (b := 40) (by omega) (by decide))]
    have hwl : wo lk met < 256 := wo_lt (n := 8) hl
    rcases fd8 hN hn hl hm hs (show d < n by omega) mc st hc with ⟨w8, e8⟩ | ⟨w8, s, s8, a8, l8, e8⟩
    · rcases do9 hN r G hT hn hwl (show d < n by omega) tt hc with ⟨w9, e9⟩ | ⟨w9, _⟩
      · rw [e8, Option.bind_some, e9, Option.bind_some, nm_v, nm_v, if_pos rfl, if_pos rfl, and_m1, nI_1, show nI met ||| (0 : Int32) = nI met from (nI_or met 0).trans (by rw [Nat.or_zero])]
        exact ih (d + 1) met (-1) f8 f9 (by omega) (by omega) (by omega) hs hm (by rw [show n - (d + 1) = n - d - 1 by omega]; exact w8)
      · exact absurd w8 w9
    · rcases do9 hN r G hT hn hwl (show d < n by omega) tt hc with ⟨w9, e9⟩ | ⟨w9, s', s9, a9, l9, e9⟩
      · exact absurd w9 w8
      · have es : s' = s := by
          rcases Nat.lt_trichotomy s' s with l | l | l
          · exact absurd a9 (l8 _ l)
          · exact l
          · exact absurd a8 (l9 _ l)
        subst es
        have hor : met ||| 2 ^ s' < 256 := or_lt (n := 8) hm (Nat.pow_lt_pow_right (by decide) s8)
        have hsw : Sub (met ||| 2 ^ s') lk := fun t q => by
          rw [Nat.testBit_or, Nat.testBit_two_pow] at q
          rcases Bool.or_eq_true_iff.mp q with q | q
          · exact hs t q
          · have := of_decide_eq_true q
            subst this
            have z := a8.1
            rw [tb_wo] at z
            exact (Bool.and_eq_true_iff.mp z).1
        rw [e8, Option.bind_some, e9, Option.bind_some, nm_v, nm_v, if_neg (nm1 _ s8), if_neg (nm1 _ s8), shl1 (by omega), nI_or, nI_wo, nI_1, ← wo_or]
        exact ih (d + 1) (met ||| 2 ^ s') (nI s') f8 f9 (by omega) (by omega) (by omega) hsw hor (by rw [show n - (d + 1) = n - d - 1 by omega, wo_or]; exact a8.2.2)
theorem lv_plm (a : PlM ad M M1) : lv ad M1 = lv ad M := by
  funext k
  unfold lv
  simp only [a.1 0 (by decide), a.1 10 (by decide), a.1 9 (by decide), a.1 11 (by decide), a.1 7 (by decide), a.1 8 (by decide), a.1 12 (by decide), a.1 13 (by decide), a.1 14 (by decide), a.1 20 (by decide)]
theorem Mo_pl (a : PlM ad M M1) : Mo ad M M1 := ⟨fun n hn k => a.1 n (by omega) k, a.1 0 (by decide) 16, a.2.2, fun k _ => ⟨a.2.1 0 (by decide) k, a.2.1 50 (by decide) _⟩⟩
theorem ref_sp (hN : Nm E (ad 50) (ad 0) ad) (r : RO ad M h) (ho : okP h) (hi : i < oP h) (hT : sT (oS h) ≤ 9999) {p2 b : Nat} (hp2 : p2 ≤ 8) (v3 : Int32) (hb : ∀ d, d ≤ 40 → (b ≤ d ↔ can (gB h i) d 0 (lkN h i p2))) : ∃ My, f_X9_plan_L47 E FU M (ad 0) (nI i) (nI p2) v3 0 (nI (sP (oS h) i)) = f_X9_plan_L200 E My (ad 0) v3 (nI (lkN h i p2)) (nI (min b 40)) ∧ PlM ad M My ∧ GC ad My h i ∧ TBL ad My h i (min b 40) := by
  rw [L47_sp hN r ho hi hp2]
  obtain ⟨Ma, ea, pa, ga⟩ := L96_sp hN r ho hi v3 (nI (lkN h i p2))
  obtain ⟨Mb, eb, lb, tb0⟩ := setMay_sp (n := 0) hN (RO_pl pa r) ga hT (by decide)
  rw [ea, eb, Option.bind_some]
  obtain ⟨My, ey, ly, ty⟩ := L171_sp hN hT v3 (lk_lt p2) hb FU 0 Mb (Nat.zero_le _) (by decide) (by unfold FU; omega) (RO_pl (pa.tr lb.pl) r) (GC_lg lb ga) tb0
  rw [nI_0] at ey
  exact ⟨My, ey, pa.tr (lb.pl.tr ly.pl), GC_lg ly (GC_lg lb ga), ty⟩
end Al57
section Al57b
variable {E : Env1} {x m : Nat} {M : Mem}
theorem nneg {a : Int32} (h1 : ¬ a < -2) (h2 : ¬ a = -1) (h3 : ¬ a = -2) : ¬ a < 0 := by
  intro z
  rw [Int32.lt_iff_toInt_lt] at h1 z
  have e2 : ¬ a.toInt = -1 := fun q => h2 (Int32.toInt_inj.mp (q.trans (by decide)))
  have e3 : ¬ a.toInt = -2 := fun q => h3 (Int32.toInt_inj.mp (q.trans (by decide)))
  rw [show (0 : Int32).toInt = 0 by decide] at z
  rw [show (-2 : Int32).toInt = -2 by decide] at h1
  omega
theorem ok_plan (hI : Inv E x m M) : al_plan Inv E x m M := by
  intro a1 a2 a3
  obtain ⟨ad, h, pi, hN, ho, hc, hb, k1, k2, k3, k4, k5⟩ := id hI
  obtain ⟨rfl, rfl⟩ : m = ad 0 ∧ x = ad 50 := ⟨hN.1.symm, hN.2.1.symm⟩
  have r := RO_of ho.1.1 hb
  have hH := hn_of hN (H := 100) (Or.inl rfl)
  have hS := sn_of hN (H := 100) (Or.inl rfl)
  have hT : sT (oS h) < 2 ^ 31 := by have := ho.2.1; omega
  have hp : oP h ≤ 6 := ho.1.1
  have hI' := hN.2.2.1
  have hP : ∀ j, j < 8 → SN E ad (100 + 16 + 4 * j) := fun j hj => (sp_of hN (H := 100) (Or.inl rfl) hj).1
  by_cases g : inP (oP h) a1
  · by_cases g2 : (0 : Int32) ≤ a2 ∧ a2 ≤ 8
    · by_cases q1 : a3 < -2
      · have n1 : ¬ a3 = -1 := fun z => by rw [z] at q1; exact absurd q1 (by decide)
        have n2 : ¬ (-2 : Int32) ≤ a3 := Int32.not_le.mpr q1
        exact fin_ten hN ho hc hb k1 k2 k3 k4 k5 (by unfold f_X8_plan; rw [n_100 hN, hasP_t hp hc.1.1 g, if_neg I10, wi_t g2, if_neg I10, if_pos q1]; rfl) (fun M1 u => by unfold f_X9_plan; rw [one_t ((u 0 (by decide) 1).trans r.1) g, if_neg I10, in_t g2, if_neg I10, if_neg n1, if_neg n2]; rfl)
      · by_cases q2 : a3 = -1
        · exact fin_ten hN ho hc hb k1 k2 k3 k4 k5 (by unfold f_X8_plan; rw [n_100 hN, hasP_t hp hc.1.1 g, if_neg I10, wi_t g2, if_neg I10, if_neg q1, if_pos q2]; rfl) (fun M1 u => by unfold f_X9_plan; rw [one_t ((u 0 (by decide) 1).trans r.1) g, if_neg I10, in_t g2, if_neg I10, if_pos q2]; rfl)
        · obtain ⟨i, hi, e1⟩ := inP_ex hp g
          have h6 : i < 6 := Nat.lt_of_lt_of_le hi hp
          obtain ⟨p2, hp2, e2⟩ := rg (n := 8) (by decide) g2
          obtain ⟨Mz, b, hbb, hbs, ez, oz, mz, lz⟩ := make_sp hN ho.1 hi hp2 ho.2.1 hc.1
          have oz64 : Off ad M Mz 60 64 := oz.mono (by decide) (by decide)
          have cz : Cl ad M Mz := Cl_off oz64 (by omega)
          have hlk : lkN h i p2 < 256 := lk_lt p2
          have e8 : ∀ F : Int32 × Mem → Option (Int32 × Mem), True := fun _ => trivial
          have s9 : ∀ M1, Mu ad M M1 → f_X9_plan E M1 (ad 0) a1 a2 a3 = f_X9_plan_L47 E FU M1 (ad 0) (nI i) (nI p2) a3 0 (nI (sP (oS h) i)) := fun M1 u => by
            unfold f_X9_plan
            have rr1 := RO_mu u r
            rw [one_t rr1.1 g, if_neg I10, in_t g2, if_neg I10, if_neg q2, if_pos (Int32.not_lt.mp q1), e1, e2, gd_nI h6 (by decide), nm_v, ix_nI (by omega), n_9 hN, rr1.2.2.2.2.2.2.1 i hi, pl_up]
          have fin1 : ∀ (a : Int32) (M8 M9 : Mem), f_X8_plan E M (ad 50) a1 a2 a3 = some (a, M8) → Off ad M M8 60 64 → f_X9_plan E M8 (ad 0) a1 a2 a3 = some (a, M9) → PlM ad M8 M9 → ∃ r M1 M2, f_X8_plan E M (ad 50) a1 a2 a3 = some (r, M1) ∧ f_X9_plan E M1 (ad 0) a1 a2 a3 = some (r, M2) ∧ Inv E (ad 50) (ad 0) M2 := fun a M8 M9 f8 o8 f9 p9 => by
            have cl : Cl ad M M8 := Cl_off o8 (by omega)
            refine fin hN k1 k2 k3 k4 k5 ho (r := a) f8 cl (CH_sm ho.2.2.1 (fun n hn k => ⟨o8.1 n (by omega) k, o8.mr _ _⟩) hc) f9 (Mo_pl p9) ?_
            rw [lv_plm p9]
            exact IB_mu cl.mu hb
          have s8 : f_X8_plan E M (ad 50) a1 a2 a3 = (if lenI b = (-1 : Int32) then some ((-6 : Int32), Mz) else if a3 = (-2 : Int32) then some (lenI b, Mz) else if lenI b ≤ a3 then some ((-5 : Int32), Mz) else (f_X3_deed E Mz (ad 60) a3).bind fun x14 => some (x14.1, x14.2)) := by
            unfold f_X8_plan
            rw [n_100 hN, hasP_t hp hc.1.1 g, if_neg I10, wi_t g2, if_neg I10, if_neg q1, if_neg q2, n_60 hN, e1, e2, ez, Option.bind_some]
          obtain ⟨My, ey, py, gy, ty⟩ := ref_sp hN (RO_mu cz.mu r) ho.1 hi ho.2.1 hp2 a3 hbs
          have im := isMay_eq (M := My) hN (d := 0) (R := lkN h i p2) (by decide) hlk
          rw [nI_0] at im
          have t0 := ty 0 (lkN h i p2) (by omega) hlk
          rw [Nat.sub_zero, ← hbs (min b 40) (by omega)] at t0
          by_cases q41 : b = 41
          · subst q41
            refine fin1 (-6) Mz My (by rw [s8, if_pos (by decide)]) oz64 ?_ py
            rw [s9 Mz cz.mu, ey]
            unfold f_X9_plan_L200
            rw [im, Option.bind_some]
            have : tb ad My 0 (lkN h i p2) = false := by
              cases q : tb ad My 0 (lkN h i p2)
              · rfl
              · have := t0.mp q; omega
            rw [this, if_neg ft1, if_pos rfl]
          · have hb40 : b ≤ 40 := by omega
            have el : lenI b = nI b := if_neg q41
            rw [show min b 40 = b by omega] at *
            have tt : tb ad My 0 (lkN h i p2) = true := t0.mpr (Nat.le_refl _)
            have nb : ¬ nI b = (-1 : Int32) := fun z => by
              have := nI_pos' (n := b) (by omega)
              rw [z] at this
              exact absurd this (by decide)
            rw [el, if_neg nb] at s8
            by_cases q3 : a3 = -2
            · rw [if_pos q3] at s8
              refine fin1 (nI b) Mz My s8 oz64 ?_ py
              rw [s9 Mz cz.mu, ey]
              unfold f_X9_plan_L200 f_X9_plan_L223
              rw [im, Option.bind_some, tt, if_pos rfl, if_neg I10, q3, if_pos (by decide), if_neg (by decide)]
            · rw [if_neg q3] at s8
              have hn0 := nneg q1 q2 q3
              obtain ⟨k, hk, e3⟩ := nI_of hn0
              by_cases q4 : b ≤ k
              · rw [if_pos (by rw [e3]; exact nI_le q4 hk)] at s8
                refine fin1 (-5) Mz My s8 oz64 ?_ py
                rw [s9 Mz cz.mu, ey]
                unfold f_X9_plan_L200 f_X9_plan_L223
                rw [im, Option.bind_some, tt, if_pos rfl, if_neg I10, if_neg hn0, e3, if_neg (nI_nlt (a := k) (b := b) q4 hk), if_pos (nI_pos' hk)]
              · have hkb : k < b := by omega
                rw [if_neg (by rw [e3]; exact nI_ge hkb (by omega))] at s8
                rw [el] at lz
                obtain ⟨Mw, ew, ow, lw⟩ := de4_sp hN hb40 hlk a3 256 FU Mz (by unfold FU; omega) (by decide) mz lz (fun r h1 h2 => by omega)
                have mw := MC_off ow (by decide) mz
                have lenw := (ow.1 60 (by decide) 4).trans lz
                have oM : Off ad M Mw 60 64 := oz64.tr (ow.mono (by decide) (by decide))
                have cw : Cl ad M Mw := Cl_off oM (by omega)
                obtain ⟨My2, ey2, py2, gy2, ty2⟩ := ref_sp hN (RO_mu cw.mu r) ho.1 hi ho.2.1 hp2 a3 hbs
                rw [show min b 40 = b by omega] at ey2 ty2
                have im2 := isMay_eq (M := My2) hN (d := 0) (R := lkN h i p2) (by decide) hlk
                rw [nI_0] at im2
                have t2 := ty2 0 (lkN h i p2) (by omega) hlk
                rw [Nat.sub_zero, ← hbs b hb40] at t2
                have tt2 : tb ad My2 0 (lkN h i p2) = true := t2.mpr (Nat.le_refl _)
                have e0 : wo (lkN h i p2) 0 = lkN h i p2 := eq_tb fun t => by rw [tb_wo, Nat.zero_testBit]; simp
                obtain ⟨a, d8, d9⟩ := deeds hN (RO_pl py2 (RO_mu cw.mu r)) gy2 ho.2.1 hb40 hlk hkb mw lenw lw ty2 (k + 1) 0 0 (-1) FU FU (by unfold FU; omega) (by unfold FU; omega) (by omega) (fun s z => by rw [Nat.zero_testBit] at z; exact absurd z ft1) (by decide) (by rw [e0, Nat.sub_zero]; exact (hbs b hb40).mp (Nat.le_refl _))
                rw [e0] at d9
                rw [nI_0] at d8 d9
                refine fin1 a Mw My2 ?_ oM ?_ py2
                · rw [s8]
                  unfold f_X3_deed
                  rw [show nI 256 - 1 = (255 : Int32) by decide] at ew
                  rw [ew, e3, d8]
                  rfl
                · rw [s9 Mw cw.mu, ey2]
                  unfold f_X9_plan_L200
                  rw [im2, Option.bind_some, tt2, if_pos rfl, if_neg I10, if_neg hn0, e3, if_pos (nI_lt hkb (by omega)), d9]
    · exact fin_ten hN ho hc hb k1 k2 k3 k4 k5 (by unfold f_X8_plan; rw [n_100 hN, hasP_t hp hc.1.1 g, if_neg I10, wi_f g2, if_pos I00]; rfl) (fun M1 u => by unfold f_X9_plan; rw [one_t ((u 0 (by decide) 1).trans r.1) g, if_neg I10, in_f g2, if_pos I00]; rfl)
  · exact fin_ten hN ho hc hb k1 k2 k3 k4 k5 (by unfold f_X8_plan; rw [n_100 hN, hasP_f hc.1.1 g, if_pos I00]; rfl) (fun M1 u => by unfold f_X9_plan; rw [one_f ((u 0 (by decide) 1).trans r.1) g, if_pos I00]; rfl)
end Al57b
