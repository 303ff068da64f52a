/-! the class's plan, how soon -/
section Al55
variable {E : Env1} {ad : Nat → Nat} {M M1 M2 : Mem} {h : Ho} {i : Nat}
def rgB (h : Ho) (i p2 s : Nat) : Bool := decide (sP (oS h) i ≤ s) && decide (s ≤ p2) && decide (s < 8)
theorem rgB_t {p2 s : Nat} : rgB h i p2 s = true ↔ sP (oS h) i ≤ s ∧ s ≤ p2 ∧ s < 8 := by
  unfold rgB
  simp [and_assoc]
theorem lkB_rg (p2 s : Nat) : lkB h i p2 s = (rgB h i p2 s && !(sN (oS h) i).testBit s) := rfl
theorem rg_lo (p2 : Nat) : setOf (sP (oS h) i) (rgB h i p2) = 0 := by
  refine (set_ext (k := 0) (d := rgB h i p2) fun s => ?_).trans rfl
  by_cases g : s < sP (oS h) i
  · have : rgB h i p2 s = false := by
      cases e : rgB h i p2 s
      · rfl
      · have := (rgB_t.mp e).1; omega
    rw [this, Bool.and_false, Bool.and_false]
  · rw [decide_eq_false g, decide_eq_false (Nat.not_lt_zero s)]
theorem rg_hi {p2 N : Nat} (hN : p2 + 1 ≤ N ∨ 8 ≤ N) : wo (setOf N (rgB h i p2)) (sN (oS h) i) = lkN h i p2 := eq_tb fun s => by
  unfold lkN
  rw [tb_wo, tb_set, tb_set, lkB_rg]
  cases e : rgB h i p2 s
  · simp
  · have := rgB_t.mp e
    rw [decide_eq_true (show s < N by omega), decide_eq_true this.2.2]
    simp
theorem lk_lt (p2 : Nat) : lkN h i p2 < 256 := set_lt 8 _
theorem lk_tb {p2 s : Nat} (q : (lkN h i p2).testBit s = true) : s < 8 ∧ (sN (oS h) i).testBit s = false := by
  unfold lkN at q
  rw [tb_set] at q
  have := lkB_t.mp (Bool.and_eq_true_iff.mp q).2
  exact ⟨this.2.2.1, this.2.2.2⟩
theorem lack_sp (hN : Nm E (ad 50) (ad 0) ad) (ho : okP h) (hi : i < oP h) {p2 : Nat} (hp2 : p2 ≤ 8) (c : CO ad M 100 h) : f_X0_lacking E M (ad 100) (nI i) (nI p2) = some (nI (lkN h i p2)) := by
  have hp := ho.1
  have hH := hn_of hN (H := 100) (Or.inl rfl)
  have hS := sn_of hN (H := 100) (Or.inl rfl)
  have h9 := ho.2.2.2.2.2.2.2.1 i
  have last : ∀ j a, a = nI (setOf j (rgB h i p2)) → (p2 + 1 ≤ j ∨ 8 ≤ j) → gd (nI i) 6 (some (a &&& ((mi M (rr E (rr E (ad 100) 3) 1) (ix (nI i))) ^^^ (-1 : Int32)))) = some (nI (lkN h i p2)) := by
    intro j a ha hj
    rw [gd_nI (by omega) (by decide), ix_nI (by omega), hH.2.2.1, hS.2.1, c.2.2.2.2.1 i (by omega), ha, nI_wo, rg_hi hj]
  unfold f_X0_lacking
  rw [gd_nI (by omega) (by decide), nm_v, hH.2.2.1, hS.2.2, ix_nI (by omega), c.2.2.2.2.2.1 i (by omega), pl_up]
  refine loop_Q (fun q (a : Int32) w => f_X0_lacking_L15 E M q (ad 100) (nI i) (nI p2) a w) (fun j a => a = nI (setOf j (rgB h i p2)) ∧ sP (oS h) i ≤ j) (fun y => y = some (nI (lkN h i p2))) (max (sP (oS h) i) (min (p2 + 1) 8)) ?_ ?_ FU (sP (oS h) i) 0 (Nat.le_max_left _ _) (by unfold FU; omega) ⟨by rw [rg_lo]; rfl, Nat.le_refl _⟩
  · intro q j a hj ⟨ha, hl⟩
    refine Or.inl ?_
    show ∃ s', b_X0_lacking_L15 E M (f_X0_lacking_L15 E M q) (ad 100) (nI i) (nI p2) a (nI j) = f_X0_lacking_L15 E M q (ad 100) (nI i) (nI p2) s' (nI (j + 1)) ∧ _
    unfold b_X0_lacking_L15
    have hj8 : j < 8 := by omega
    rw [if_neg (nI_nlt (a := p2) (b := j) (by omega) (by omega)), if_neg (lt8 hj8), nm_v, shl1 (by omega), nI_1, ha, nI_or]
    refine ⟨_, rfl, ?_, by omega⟩
    show _ = nI (setOf j (rgB h i p2) ||| if rgB h i p2 j then 2 ^ j else 0)
    rw [rgB_t.mpr ⟨hl, by omega, hj8⟩, if_pos rfl]
  · intro q a ⟨ha, hl⟩
    show b_X0_lacking_L15 E M (f_X0_lacking_L15 E M q) (ad 100) (nI i) (nI p2) a (nI (max (sP (oS h) i) (min (p2 + 1) 8))) = _
    unfold b_X0_lacking_L15
    by_cases g : p2 < max (sP (oS h) i) (min (p2 + 1) 8)
    · rw [if_pos (nI_lt g (by omega))]
      exact last _ a ha (by omega)
    · rw [if_neg (nI_nlt (a := p2) (b := max (sP (oS h) i) (min (p2 + 1) 8)) (by omega) (by omega)), if_pos (show (8 : Int32) ≤ nI (max (sP (oS h) i) (min (p2 + 1) 8)) from nI_le (a := 8) (by omega) (by omega))]
      exact last _ a ha (by omega)
def mcB (h : Ho) (i lk t s : Nat) : Bool := lk.testBit s && gB h i t s
theorem mable_sp (hN : Nm E (ad 50) (ad 0) ad) (ho : okP h) (hi : i < oP h) {lk T : Nat} (hT : T < 2 ^ 31) (hl : lk < 256) (hk : ∀ s, lk.testBit s = true → (sN (oS h) i).testBit s = false) (c : CO ad M 100 h) : f_X0_meetable E M (ad 100) (nI i) (nI lk) (nI T) = some (nI (setOf 8 (fun s => lk.testBit s && gD h i (T % 24) s))) := by
  have hp := ho.1
  have hH := hn_of hN (H := 100) (Or.inl rfl)
  have hS := sn_of hN (H := 100) (Or.inl rfl)
  unfold f_X0_meetable
  obtain ⟨n, e⟩ := loop_FU (fun q (a : Int32) w => f_X0_meetable_L6 E M q (ad 100) (nI i) (nI lk) (nI T) a w) (fun j => nI (setOf j (fun s => lk.testBit s && gD h i (T % 24) s))) 8 (by decide) (by
    intro n j hj
    show b_X0_meetable_L6 E M (f_X0_meetable_L6 E M n) (ad 100) (nI i) (nI lk) (nI T) (nI (setOf j (fun s => lk.testBit s && gD h i (T % 24) s))) (nI j) = f_X0_meetable_L6 E M n (ad 100) (nI i) (nI lk) (nI T) (nI (setOf j (fun s => lk.testBit s && gD h i (T % 24) s) ||| if lk.testBit j && gD h i (T % 24) j then 2 ^ j else 0)) (nI (j + 1))
    unfold b_X0_meetable_L6
    rw [if_neg (lt8 hj), others_eq hH hS ho (by omega) hj c, Option.bind_some, meet_eq hH hS ho hi hj (others_lt _ _ _) hT c, Option.bind_some, nm_v, shl1 (by omega), nI_1, nI_or, gD_mod]
    simp only [bitN (show lk < 2 ^ 31 by omega) (show j < 32 by omega), fl01]
    unfold meetB
    cases q : lk.testBit j
    · rw [if_neg ft1, Bool.false_and, if_neg ft1, Nat.or_zero]
    · rw [if_pos rfl, hk j q, Bool.false_or, Bool.true_and]
      cases decide (wantN h i j T ≤ wordN h (othersN h i j) T)
      · rw [if_pos rfl, if_neg ft1, Nat.or_zero]
      · rw [if_neg (by decide), if_pos rfl])
  refine e.trans ?_
  show b_X0_meetable_L6 E M (f_X0_meetable_L6 E M n) (ad 100) (nI i) (nI lk) (nI T) _ (nI 8) = _
  unfold b_X0_meetable_L6
  rw [if_pos (by decide)]
theorem CO_off {lo hi H : Nat} (o : Off ad M M1 lo hi) (hd : hi ≤ H) (c : CO ad M H h) : CO ad M1 H h := CO_sm (fun n hn k => ⟨o.1 n (by omega) k, o.mr _ _⟩) c
def MC (ad : Nat → Nat) (M : Mem) (h : Ho) (i lk : Nat) : Prop := mi M (ad 60) 3 = nI lk ∧ ∀ t, t < 40 → mi M (ad 61) t = nI (setOf 8 (mcB h i lk t))
theorem MC_off {lo hi lk : Nat} (o : Off ad M M1 lo hi) (hd : 62 ≤ lo) (c : MC ad M h i lk) : MC ad M1 h i lk := ⟨(o.1 60 (by omega) 3).trans c.1, fun t ht => (o.1 61 (by omega) t).trans (c.2 t ht)⟩
theorem mk13_sp (hN : Nm E (ad 50) (ad 0) ad) (ho : okP h) (hi : i < oP h) {lk : Nat} (hT : sT (oS h) ≤ 9999) (hl : lk < 256) (hk : ∀ s, lk.testBit s = true → (sN (oS h) i).testBit s = false) (c : CO ad M 100 h) (hm : mi M (ad 60) 3 = nI lk) : ∃ Mz, f_X3_make_L13 E FU M (ad 60) (ad 100) (nI i) 0 = f_X3_make_L55 E FU Mz (ad 60) 0 ∧ Off ad M Mz 61 62 ∧ MC ad Mz h i lk := by
  have hI := hN.2.2.1
  have hH := hn_of hN (H := 100) (Or.inl rfl)
  refine loop_QFU (fun q (Mx : Mem) w => f_X3_make_L13 E q Mx (ad 60) (ad 100) (nI i) w) (fun t Mx => Off ad M Mx 61 62 ∧ ∀ t', t' < t → mi Mx (ad 61) t' = nI (setOf 8 (mcB h i lk t'))) (fun y => ∃ Mz, y = f_X3_make_L55 E FU Mz (ad 60) 0 ∧ Off ad M Mz 61 62 ∧ MC ad Mz h i lk) 40 (by decide) M ⟨Off.rf, fun t ht => by omega⟩ ?_ ?_
  · intro q t Mx ht ⟨of, hx⟩
    refine Or.inl ⟨wi Mx (ad 61) t (nI (setOf 8 (mcB h i lk t))), ?_, of.tr (Off_wi hI _ (by omega)), fun t' ht' => ?_⟩
    · show b_X3_make_L13 E (f_X3_make_L13 E q) Mx (ad 60) (ad 100) (nI i) (nI t) = _
      unfold b_X3_make_L13
      have cx := CO_off of (by decide) c
      rw [if_neg (show ¬ (40 : Int32) ≤ nI t from nI_ge (a := t) (b := 40) ht (by decide)), hH.2.2.1, cx.2.2.2.2.2.2.2, of.1 60 (by decide) 3, hm, nI_add, mable_sp hN ho hi (by omega) hl hk cx, Option.bind_some, gd_nI ht (by decide), ix_nI (by omega), n_61 hN, nI_1]
      rfl
    · rw [mi_wi]
      by_cases e : t' = t
      · subst e; rw [if_pos ⟨rfl, rfl⟩]
      · rw [if_neg (fun z => e z.2)]; exact hx t' (by omega)
  · intro q Mx ⟨of, hx⟩
    refine ⟨Mx, ?_, of, (of.1 60 (by decide) 3).trans hm, hx⟩
    show b_X3_make_L13 E (f_X3_make_L13 E q) Mx (ad 60) (ad 100) (nI i) (nI 40) = _
    unfold b_X3_make_L13
    rw [if_pos (by decide)]
theorem jmin_n {a b : Nat} (ha : a < 2 ^ 31) (hb : b < 2 ^ 31) : jmin (nI a) (nI b) = nI (min a b) := by
  unfold jmin
  by_cases g : b < a
  · rw [if_pos (nI_lt g ha), Nat.min_eq_right (by omega)]
  · rw [if_neg (nI_nlt (a := b) (b := a) (by omega) hb), Nat.min_eq_left (by omega)]
theorem mc_tb {lk t s : Nat} (hs : s < 8) : (setOf 8 (mcB h i lk t)).testBit s = (lk.testBit s && gB h i t s) := by
  rw [tb_set, decide_eq_true hs, Bool.true_and]
  rfl
theorem fm_sp (hN : Nm E (ad 50) (ad 0) ad) {lk a s : Nat} (ha : a ≤ 41) (hs : s < 8) (mc : MC ad M h i lk) : ∃ v, f_X3_firstMinute E M (ad 60) (nI s) (nI a) = some (nI v) ∧ v ≤ 40 ∧ ∀ d, d ≤ 40 → (v < d ↔ ∃ t, a ≤ t ∧ t < d ∧ lk.testBit s = true ∧ gB h i t s = true) := by
  unfold f_X3_firstMinute
  have e0 : jmax (nI a) (0 : Int32) = nI a := (jmax_n (a := a) (b := 0) (by omega) (by decide)).trans (by rw [Nat.max_zero])
  rw [e0]
  by_cases e : a = 41
  · subst e
    refine ⟨40, ?_, Nat.le_refl _, fun d hd => ⟨fun z => by omega, fun ⟨t, h1, h2, _⟩ => by omega⟩⟩
    show b_X3_firstMinute_L6 E M (f_X3_firstMinute_L6 E M 999) (ad 60) (nI s) (nI 41) = _
    unfold b_X3_firstMinute_L6
    rw [if_pos (by decide)]
    rfl
  · refine loop_Q (fun q (_ : Unit) w => f_X3_firstMinute_L6 E M q (ad 60) (nI s) w) (fun j _ => a ≤ j ∧ ∀ t, a ≤ t → t < j → ¬ (lk.testBit s = true ∧ gB h i t s = true)) (fun y => ∃ v, y = some (nI v) ∧ v ≤ 40 ∧ ∀ d, d ≤ 40 → (v < d ↔ ∃ t, a ≤ t ∧ t < d ∧ lk.testBit s = true ∧ gB h i t s = true)) 40 ?_ ?_ FU a () (by omega) (by unfold FU; omega) ⟨Nat.le_refl _, fun t h1 h2 => by omega⟩
    · intro q j _ hj ⟨hl, hx⟩
      show (∃ s', b_X3_firstMinute_L6 E M (f_X3_firstMinute_L6 E M q) (ad 60) (nI s) (nI j) = f_X3_firstMinute_L6 E M q (ad 60) (nI s) (nI (j + 1)) ∧ _) ∨ ∃ v, b_X3_firstMinute_L6 E M (f_X3_firstMinute_L6 E M q) (ad 60) (nI s) (nI j) = _ ∧ _
      unfold b_X3_firstMinute_L6
      have hset : setOf 8 (mcB h i lk j) < 2 ^ 8 := set_lt 8 _
      rw [if_neg (show ¬ (40 : Int32) ≤ nI j from nI_ge (a := j) (b := 40) hj (by decide)), gd_nI hj (by decide), ix_nI (by omega), n_61 hN, mc.2 j hj, nI_1]
      simp only [bitN (show setOf 8 (mcB h i lk j) < 2 ^ 31 by omega) (show s < 32 by omega), mc_tb hs]
      by_cases g : (lk.testBit s && gB h i j s) = true
      · rw [if_pos g]
        have g' := Bool.and_eq_true_iff.mp g
        refine Or.inr ⟨j, rfl, by omega, fun d hd => ⟨fun z => ⟨j, hl, z, g'⟩, fun ⟨t, h1, h2, h3⟩ => ?_⟩⟩
        rcases Nat.lt_or_ge t j with l | l
        · exact absurd h3 (hx t h1 l)
        · omega
      · rw [if_neg g]
        refine Or.inl ⟨(), rfl, by omega, fun t h1 h2 => ?_⟩
        by_cases e2 : t = j
        · subst e2; exact fun z => g (Bool.and_eq_true_iff.mpr z)
        · exact hx t h1 (by omega)
    · intro q _ ⟨hl, hx⟩
      show ∃ v, b_X3_firstMinute_L6 E M (f_X3_firstMinute_L6 E M q) (ad 60) (nI s) (nI 40) = _ ∧ _
      unfold b_X3_firstMinute_L6
      rw [if_pos (by decide)]
      exact ⟨40, rfl, Nat.le_refl _, fun d hd => ⟨fun z => by omega, fun ⟨t, h1, h2, h3⟩ => absurd h3 (hx t h1 (by omega))⟩⟩
/-! sets of steps -/
def Sub (a b : Nat) : Prop := ∀ s, a.testBit s = true → b.testBit s = true
theorem and_pow (a s : Nat) : (a &&& 2 ^ s = 0) = (a.testBit s = false) := propext ⟨fun z => by
    have := congrArg (fun q => q.testBit s) z
    simpa [Nat.testBit_and, Nat.testBit_two_pow] using this, fun z => eq_tb fun t => by
    rw [Nat.testBit_and, Nat.testBit_two_pow, Nat.zero_testBit]
    by_cases e : s = t
    · subst e; rw [z]; rfl
    · rw [decide_eq_false e, Bool.and_false]⟩
theorem xor_wo {a s : Nat} (q : a.testBit s = true) : a ^^^ 2 ^ s = wo a (2 ^ s) := eq_tb fun t => by
  rw [Nat.testBit_xor, tb_w1, Nat.testBit_two_pow]
  by_cases e : s = t
  · subst e; rw [q]; simp
  · simp [e]
theorem wo_less {a s : Nat} (q : a.testBit s = true) : wo a (2 ^ s) < a := Nat.lt_of_le_of_ne (Nat.le_of_testBit fun t ht => (tb_w1i.mp ht).1) (fun z => by
  have := congrArg (fun q => q.testBit s) z
  simp only [tb_w1, q] at this
  simp at this)
/-- how soon these can be done -/
def SoT (ad : Nat → Nat) (M : Mem) (h : Ho) (i lk met : Nat) : Prop := ∀ r, r < met → ∃ b, b ≤ 41 ∧ mi M (ad 62) r = nI b ∧ (Sub r lk → ∀ d, d ≤ 40 → (b ≤ d ↔ can (gB h i) d 0 r))
theorem so_sp (hN : Nm E (ad 50) (ad 0) ad) {lk met : Nat} (hl : lk < 256) (hmt : met < 256) (mc : MC ad M h i lk) (st : SoT ad M h i lk met) : ∃ b, b ≤ 41 ∧ f_X3_soonestOf E M (ad 60) (nI met) = some (nI b) ∧ (Sub met lk → ∀ d, d ≤ 40 → (b ≤ d ↔ can (gB h i) d 0 met)) := by
  unfold f_X3_soonestOf
  rw [nm_v]
  have start : (if nI met = 0 then (0 : Int32) else 41) = nI (if met = 0 then 0 else 41) := by
    by_cases e : met = 0
    · subst e; rfl
    · rw [if_neg (nI_ne0 (by omega) (by omega)), if_neg e]; rfl
  rw [start]
  refine loop_QFU (fun q (a : Int32) w => f_X3_soonestOf_L13 E M q (ad 60) (nI met) a w) (fun j a => ∃ b, a = nI b ∧ b ≤ 41 ∧ (Sub met lk → ∀ d, d ≤ 40 → (b ≤ d ↔ met = 0 ∨ ∃ s, s < j ∧ met.testBit s = true ∧ ∃ t, t < d ∧ gB h i t s = true ∧ can (gB h i) t 0 (wo met (2 ^ s))))) (fun y => ∃ b, b ≤ 41 ∧ y = some (nI b) ∧ (Sub met lk → ∀ d, d ≤ 40 → (b ≤ d ↔ can (gB h i) d 0 met))) 8 (by decide) _ ⟨_, rfl, by split <;> omega, fun _ d hd => ?_⟩ ?_ ?_
  · by_cases e : met = 0
    · rw [if_pos e]; exact ⟨fun _ => Or.inl e, fun _ => Nat.zero_le _⟩
    · rw [if_neg e]; exact ⟨fun z => by omega, fun z => by rcases z with z | ⟨s, hs, _⟩ <;> omega⟩
  · intro q j a hj ⟨b, ha, hb, hx⟩
    refine Or.inl ?_
    show ∃ s', b_X3_soonestOf_L13 E M (f_X3_soonestOf_L13 E M q) (ad 60) (nI met) a (nI j) = f_X3_soonestOf_L13 E M q (ad 60) (nI met) s' (nI (j + 1)) ∧ _
    unfold b_X3_soonestOf_L13
    have hle : met &&& lk ≤ met := Nat.and_le_left
    have hle2 : (met &&& lk) &&& 2 ^ j ≤ met &&& lk := Nat.and_le_left
    rw [if_neg (lt8 hj), mc.1, nI_and, shl1 (by omega), nI_and, nI_1, nI_xor]
    simp only [nIe0 (show (met &&& lk) &&& 2 ^ j < 2 ^ 31 by omega), and_pow, Nat.testBit_and]
    cases g : (met.testBit j && lk.testBit j)
    · rw [if_pos rfl]
      refine ⟨a, rfl, b, ha, hb, fun hs d hd => (hx hs d hd).trans ⟨fun z => ?_, fun z => ?_⟩⟩
      · rcases z with z | ⟨s, h1, h2⟩
        · exact Or.inl z
        · exact Or.inr ⟨s, by omega, h2⟩
      · rcases z with z | ⟨s, h1, h2, h3⟩
        · exact Or.inl z
        · by_cases e : s = j
          · subst e
            rw [h2, hs _ h2] at g
            exact absurd g (by decide)
          · exact Or.inr ⟨s, by omega, h2, h3⟩
    · obtain ⟨g1, g2⟩ := Bool.and_eq_true_iff.mp g
      have hw := wo_less g1
      obtain ⟨b', hb', hm', hs'⟩ := st _ hw
      obtain ⟨v, ev, hv, hv2⟩ := fm_sp hN hb' hj mc
      rw [if_neg (by decide), xor_wo g1, gd_nI (by omega) (by decide), ix_nI (by omega), n_62 hN, hm', ev, Option.bind_some, ha, nI_1, jmin_n (by omega) (by omega)]
      refine ⟨_, rfl, _, rfl, by omega, fun hs d hd => ?_⟩
      have hx' := hx hs d hd
      have hsw : Sub (wo met (2 ^ j)) lk := fun s q => hs s (tb_w1i.mp q).1
      have hv' := hv2 d hd
      constructor
      · intro z
        rcases (show b ≤ d ∨ v < d by omega) with z | z
        · rcases hx'.mp z with z | ⟨s, h1, h2⟩
          · exact Or.inl z
          · exact Or.inr ⟨s, by omega, h2⟩
        · obtain ⟨t, h1, h2, h3, h4⟩ := hv'.mp z
          exact Or.inr ⟨j, by omega, g1, t, h2, h4, (hs' hsw t (by omega)).mp h1⟩
      · intro z
        rcases z with z | ⟨s, h1, h2, t, h3, h4, h5⟩
        · have := hx'.mpr (Or.inl z); omega
        · by_cases e : s = j
          · subst e
            have := hv'.mpr ⟨t, (hs' hsw t (by omega)).mpr h5, h3, g2, h4⟩
            omega
          · have := hx'.mpr (Or.inr ⟨s, by omega, h2, t, h3, h4, h5⟩); omega
  · intro q a ⟨b, ha, hb, hx⟩
    refine ⟨b, hb, ?_, fun hs d hd => (hx hs d hd).trans ?_⟩
    · show b_X3_soonestOf_L13 E M (f_X3_soonestOf_L13 E M q) (ad 60) (nI met) a (nI 8) = _
      unfold b_X3_soonestOf_L13
      rw [if_pos (by decide), ha]
    · by_cases e : met = 0
      · subst e; exact ⟨fun _ => can_0 _ _, fun _ => Or.inl rfl⟩
      · rw [can_pre e]
        constructor
        · intro z
          rcases z with z | ⟨s, h1, h2, t, h3, h4, h5⟩
          · exact absurd z e
          · exact ⟨t, s, h3, h1, h2, h4, h5⟩
        · intro ⟨t, s, h1, h2, h3, h4, h5⟩
          exact Or.inr ⟨s, h2, h3, t, h1, h4, h5⟩
def lenI (b : Nat) : Int32 := if b = 41 then -1 else nI b
theorem mk55_sp (hN : Nm E (ad 50) (ad 0) ad) {lk : Nat} (hl : lk < 256) (mc : MC ad M h i lk) : ∃ Mx b, b ≤ 41 ∧ (∀ d, d ≤ 40 → (b ≤ d ↔ can (gB h i) d 0 lk)) ∧ Off ad M Mx 62 63 ∧ f_X3_make_L55 E FU M (ad 60) 0 = some (lenI b, wi Mx (ad 60) 4 (lenI b)) := by
  have hI := hN.2.2.1
  refine loop_QFU (fun q (Mx : Mem) w => f_X3_make_L55 E q Mx (ad 60) w) (fun j Mx => Off ad M Mx 62 63 ∧ SoT ad Mx h i lk j) (fun y => ∃ Mx b, b ≤ 41 ∧ (∀ d, d ≤ 40 → (b ≤ d ↔ can (gB h i) d 0 lk)) ∧ Off ad M Mx 62 63 ∧ y = some (lenI b, wi Mx (ad 60) 4 (lenI b))) 256 (by decide) M ⟨Off.rf, fun r hr => by omega⟩ ?_ ?_
  · intro q j Mx hj ⟨of, st⟩
    obtain ⟨b, hb, eb, sb⟩ := so_sp hN hl hj (MC_off of (by decide) mc) st
    refine Or.inl ⟨wi Mx (ad 62) j (nI b), ?_, of.tr (Off_wi hI _ (by omega)), fun r hr => ?_⟩
    · show b_X3_make_L55 E (f_X3_make_L55 E q) Mx (ad 60) (nI j) = _
      unfold b_X3_make_L55
      rw [if_neg (show ¬ (256 : Int32) ≤ nI j from nI_ge (a := j) (b := 256) hj (by decide)), eb, Option.bind_some, gd_nI hj (by decide), ix_nI (by omega), n_62 hN, nI_1]
    · rw [mi_wi]
      by_cases e : r = j
      · subst e; exact ⟨b, hb, if_pos ⟨rfl, rfl⟩, sb⟩
      · rw [if_neg (fun z => e z.2)]; exact st r (by omega)
  · intro q Mx ⟨of, st⟩
    obtain ⟨b, hb, eb, sb⟩ := st lk hl
    have mx := MC_off of (by decide) mc
    refine ⟨Mx, b, hb, sb (fun _ z => z), of, ?_⟩
    show b_X3_make_L55 E (f_X3_make_L55 E q) Mx (ad 60) (nI 256) = _
    unfold b_X3_make_L55 f_X3_make_L110
    have e41 : (if nI b = (41 : Int32) then (-1 : Int32) else nI b) = lenI b := by
      unfold lenI
      by_cases e : b = 41
      · subst e; rfl
      · rw [if_neg e]; exact if_neg (fun z => e ((nI_eq (b := 41) (by omega) (by decide)).mp z))
    rw [if_pos (by decide), mx.1, wi_t (b := 0) (c := 255) ⟨nI_pos' (by omega), nI_le (a := lk) (b := 255) (by omega) (by decide)⟩, if_neg I10, gd_nI hl (by decide), ix_nI (by omega), n_62 hN, eb, e41, mi_wi, if_pos ⟨rfl, rfl⟩]
theorem make_sp (hN : Nm E (ad 50) (ad 0) ad) (ho : okP h) (hi : i < oP h) {p2 : Nat} (hp2 : p2 ≤ 8) (hT : sT (oS h) ≤ 9999) (c : CO ad M 100 h) : ∃ Mz b, b ≤ 41 ∧ (∀ d, d ≤ 40 → (b ≤ d ↔ can (gB h i) d 0 (lkN h i p2))) ∧ f_X3_make E M (ad 60) (ad 100) (nI i) (nI p2) = some (lenI b, Mz) ∧ Off ad M Mz 60 63 ∧ MC ad Mz h i (lkN h i p2) ∧ mi Mz (ad 60) 4 = lenI b := by
  have hI := hN.2.2.1
  unfold f_X3_make
  rw [lack_sp hN ho hi hp2 c, Option.bind_some]
  have o1 : Off ad M (wi M (ad 60) 3 (nI (lkN h i p2))) 60 63 := Off_wi hI _ (by omega)
  obtain ⟨Ma, ea, oa, ma⟩ := mk13_sp hN ho hi hT (lk_lt p2) (fun s q => (lk_tb q).2) (CO_off o1 (by decide) c) (by rw [mi_wi, if_pos ⟨rfl, rfl⟩])
  rw [ea]
  obtain ⟨Mx, b, hb, sb, ox, ex⟩ := mk55_sp hN (lk_lt p2) ma
  rw [ex]
  have d61 : ¬ ad 61 = ad 60 := fun z => by have := hI _ _ z; omega
  refine ⟨_, b, hb, sb, rfl, o1.tr ((oa.mono (by omega) (by omega)).tr ((ox.mono (by omega) (by omega)).tr (Off_wi hI _ (by omega)))), ⟨?_, fun t ht => ?_⟩, ?_⟩
  · rw [mi_wi, if_neg (by omega)]; exact (MC_off ox (by decide) ma).1
  · rw [mi_wi, if_neg (fun z => d61 z.1)]; exact (MC_off ox (by decide) ma).2 t ht
  · rw [mi_wi, if_pos ⟨rfl, rfl⟩]
end Al55
