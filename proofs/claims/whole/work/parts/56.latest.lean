/-! the class's plan, how late -/
section Al56
variable {E : Env1} {ad : Nat → Nat} {M M1 M2 : Mem} {h : Ho} {i : Nat}
theorem lmL (hN : Nm E (ad 50) (ad 0) ad) {lk u s : Nat} (hu : u ≤ 41) (hs : s < 8) (mc : MC ad M h i lk) : ∀ c f, c < f → c < u → (∀ t, c ≤ t → t + 1 < u → ¬ (lk.testBit s = true ∧ gB h i t s = true)) → ∃ v, v ≤ c ∧ f_X3_lastMinute_L9 E M f (ad 60) (nI s) (nI c - 1) = some (nI v - 1) ∧ ∀ d, (d < v ↔ ∃ t, d ≤ t ∧ t + 1 < u ∧ lk.testBit s = true ∧ gB h i t s = true) := by
  intro c
  induction c with
  | zero =>
    intro f hf _ hx
    obtain ⟨f, rfl⟩ : ∃ f', f = f' + 1 := ⟨f - 1, by omega⟩
    refine ⟨0, Nat.le_refl _, ?_, fun d => ⟨fun z => absurd z (Nat.not_lt_zero _), fun ⟨t, _, h2, h3⟩ => absurd h3 (hx t (Nat.zero_le _) h2)⟩⟩
    show b_X3_lastMinute_L9 E M (f_X3_lastMinute_L9 E M f) (ad 60) (nI s) (nI 0 - 1) = _
    unfold b_X3_lastMinute_L9
    rw [if_pos (by decide)]
    rfl
  | succ c ih =>
    intro f hf hc hx
    obtain ⟨f, rfl⟩ : ∃ f', f = f' + 1 := ⟨f - 1, by omega⟩
    show ∃ v, v ≤ c + 1 ∧ b_X3_lastMinute_L9 E M (f_X3_lastMinute_L9 E M f) (ad 60) (nI s) (nI (c + 1) - 1) = _ ∧ _
    unfold b_X3_lastMinute_L9
    have hset : setOf 8 (mcB h i lk c) < 2 ^ 8 := set_lt 8 _
    rw [nI_pred, if_neg (nI_pos (by omega)), gd_nI (by omega) (by decide), ix_nI (by omega), n_61 hN, mc.2 c (by omega), dm1]
    simp only [bitN (show setOf 8 (mcB h i lk c) < 2 ^ 31 by omega) (show s < 32 by omega), mc_tb hs]
    by_cases g : (lk.testBit s && gB h i c s) = true
    · rw [if_pos g]
      have g' := Bool.and_eq_true_iff.mp g
      refine ⟨c + 1, Nat.le_refl _, by rw [nI_pred], fun d => ⟨fun z => ⟨c, by omega, hc, g'⟩, fun ⟨t, h1, h2, h3⟩ => ?_⟩⟩
      rcases Nat.lt_or_ge t (c + 1) with l | l
      · omega
      · exact absurd h3 (hx t l h2)
    · rw [if_neg g]
      obtain ⟨v, hv, e, hd⟩ := ih f (by omega) (by omega) (fun t h1 h2 => by
        by_cases e2 : t = c
        · subst e2; exact fun z => g (Bool.and_eq_true_iff.mpr z)
        · exact hx t (by omega) h2)
      exact ⟨v, by omega, e, hd⟩
theorem jm40 : ∀ u, u < 42 → jmin (nI u - 1) (40 : Int32) = nI u - 1 := by
  unfold jmin
  decide +kernel
theorem jmx1 : ∀ a, a < 42 → ∀ b, b < 42 → jmax (nI a - 1) (nI b - 1) = nI (max a b) - 1 := by
  unfold jmax
  decide +kernel
theorem lea1 : ∀ u, u < 42 → ∀ d, d < 42 → (nI u - 1 ≤ nI d) = (u ≤ d + 1) := by decide +kernel
theorem lm_sp (hN : Nm E (ad 50) (ad 0) ad) {lk u s : Nat} (hu : u ≤ 41) (hs : s < 8) (mc : MC ad M h i lk) : ∃ v, (v = 0 ∨ v + 1 ≤ u) ∧ f_X3_lastMinute E M (ad 60) (nI s) (nI u - 1) = some (nI v - 1) ∧ ∀ d, (d < v ↔ ∃ t, d ≤ t ∧ t + 1 < u ∧ lk.testBit s = true ∧ gB h i t s = true) := by
  unfold f_X3_lastMinute
  rw [nm_v, jm40 u (by omega)]
  by_cases e : u = 0
  · subst e
    refine ⟨0, Or.inl rfl, ?_, fun d => ⟨fun z => absurd z (Nat.not_lt_zero _), fun ⟨t, _, h2, h3⟩ => absurd h2 (Nat.not_lt_zero _)⟩⟩
    show b_X3_lastMinute_L9 E M (f_X3_lastMinute_L9 E M 999) (ad 60) (nI s) (nI 0 - 1 - 1) = _
    unfold b_X3_lastMinute_L9
    rw [if_pos (by decide)]
    rfl
  · obtain ⟨c, rfl⟩ : ∃ c, u = c + 1 := ⟨u - 1, by omega⟩
    rw [nI_pred]
    obtain ⟨v, hv, e1, hd⟩ := lmL hN hu hs mc c FU (by unfold FU; omega) (by omega) (fun t h1 h2 => by omega)
    exact ⟨v, Or.inr (by omega), e1, hd⟩
theorem wo_or (a b c : Nat) : wo a (b ||| c) = wo (wo a b) c := eq_tb fun t => by
  rw [tb_wo, tb_wo, tb_wo, Nat.testBit_or]
  cases a.testBit t <;> cases b.testBit t <;> cases c.testBit t <;> rfl
theorem wo_0i {a b : Nat} : wo a b = 0 ↔ Sub a b := by
  constructor
  · intro z s hs
    have := congrArg (fun q => q.testBit s) z
    simp only [tb_wo, hs, Nat.zero_testBit, Bool.true_and] at this
    cases e : b.testBit s
    · rw [e] at this; exact absurd this (by decide)
    · rfl
  · intro z
    refine eq_tb fun s => ?_
    rw [tb_wo, Nat.zero_testBit]
    cases e : a.testBit s
    · rfl
    · rw [z s e]; rfl
theorem sub_eq {a b : Nat} (h1 : Sub a b) (h2 : Sub b a) : a = b := eq_tb fun s => by
  cases e : a.testBit s
  · cases e2 : b.testBit s
    · rfl
    · rw [h2 s e2] at e; exact absurd e (by decide)
  · rw [h1 s e]
/-- how late the rest can still be begun -/
def LaT (ad : Nat → Nat) (M : Mem) (h : Ho) (i lk n met : Nat) : Prop := ∀ r, met ≤ r → r < 256 → ∃ u, u ≤ 41 ∧ mi M (ad 63) r = nI u - 1 ∧ (Sub r lk → u ≤ n + 1 ∧ ∀ d, d ≤ n → (d < u ↔ can (gB h i) (n - d) d (wo lk r)))
theorem la_sp (hN : Nm E (ad 50) (ad 0) ad) {lk n met : Nat} (hn : n ≤ 40) (hl : lk < 256) (hmt : met < 256) (mc : MC ad M h i lk) (hlen : mi M (ad 60) 4 = nI n) (st : LaT ad M h i lk n (met + 1)) : ∃ u, u ≤ 41 ∧ f_X3_latestOf E M (ad 60) (nI met) = some (nI u - 1) ∧ (Sub met lk → u ≤ n + 1 ∧ ∀ d, d ≤ n → (d < u ↔ can (gB h i) (n - d) d (wo lk met))) := by
  unfold f_X3_latestOf
  rw [nm_v, mc.1, hlen]
  have start : (if nI met = nI lk then nI n else (-1 : Int32)) = nI (if met = lk then n + 1 else 0) - 1 := by
    simp only [nIe (show met < 2 ^ 31 by omega) (show lk < 2 ^ 31 by omega)]
    by_cases e : met = lk
    · rw [if_pos e, if_pos e, nI_pred]
    · rw [if_neg e, if_neg e]; rfl
  rw [start]
  have hw256 : wo lk met < 256 := wo_lt (n := 8) hl
  refine loop_QFU (fun q (a : Int32) w => f_X3_latestOf_L19 E M q (ad 60) (nI met) a w) (fun j a => ∃ u, a = nI u - 1 ∧ u ≤ 41 ∧ (Sub met lk → u ≤ n + 1 ∧ ∀ d, d ≤ n → (d < u ↔ met = lk ∨ ∃ s, s < j ∧ (wo lk met).testBit s = true ∧ ∃ t, d ≤ t ∧ t < n ∧ gB h i t s = true ∧ can (gB h i) (n - t - 1) (t + 1) (wo (wo lk met) (2 ^ s))))) (fun y => ∃ u, u ≤ 41 ∧ y = some (nI u - 1) ∧ (Sub met lk → u ≤ n + 1 ∧ ∀ d, d ≤ n → (d < u ↔ can (gB h i) (n - d) d (wo lk met)))) 8 (by decide) _ ⟨_, rfl, by split <;> omega, fun _ => ⟨by split <;> omega, fun d hd => ?_⟩⟩ ?_ ?_
  · by_cases e : met = lk
    · rw [if_pos e]; exact ⟨fun _ => Or.inl e, fun _ => by omega⟩
    · rw [if_neg e]; exact ⟨fun z => absurd z (Nat.not_lt_zero _), fun z => by rcases z with z | ⟨s, hs, _⟩; exact absurd z e; omega⟩
  · intro q j a hj ⟨u, ha, hu, hx⟩
    refine Or.inl ?_
    show ∃ s', b_X3_latestOf_L19 E M (f_X3_latestOf_L19 E M q) (ad 60) (nI met) a (nI j) = f_X3_latestOf_L19 E M q (ad 60) (nI met) s' (nI (j + 1)) ∧ _
    unfold b_X3_latestOf_L19
    have hle2 : (wo lk met) &&& 2 ^ j ≤ wo lk met := Nat.and_le_left
    rw [if_neg (lt8 hj), mc.1, nI_wo, shl1 (by omega), nI_and, nI_1, nI_or]
    simp only [nIe0 (show (wo lk met) &&& 2 ^ j < 2 ^ 31 by omega), and_pow]
    cases g : (wo lk met).testBit j
    · rw [if_pos rfl]
      refine ⟨a, rfl, u, ha, hu, fun hs => ⟨(hx hs).1, fun d hd => ((hx hs).2 d hd).trans ⟨fun z => ?_, fun z => ?_⟩⟩⟩
      · rcases z with z | ⟨s, h1, h2⟩
        · exact Or.inl z
        · exact Or.inr ⟨s, by omega, h2⟩
      · rcases z with z | ⟨s, h1, h2, h3⟩
        · exact Or.inl z
        · by_cases e : s = j
          · subst e
            rw [g] at h2
            exact absurd h2 (by decide)
          · exact Or.inr ⟨s, by omega, h2, h3⟩
    · have g' := g
      rw [tb_wo] at g'
      obtain ⟨g1, g2⟩ := Bool.and_eq_true_iff.mp g'
      have hor : met ||| 2 ^ j < 256 := or_lt (n := 8) hmt (Nat.pow_lt_pow_right (by decide) hj)
      have hgt : met < met ||| 2 ^ j := Nat.lt_of_le_of_ne Nat.left_le_or (fun z => by
        have := congrArg (fun q => q.testBit j) z
        simp only [Nat.testBit_or, Nat.testBit_two_pow] at this
        rw [show met.testBit j = false by simpa using g2] at this
        simp at this)
      obtain ⟨u', hu', hm', hs'⟩ := st _ hgt hor
      obtain ⟨v, hv, ev, hv2⟩ := lm_sp hN hu' hj mc
      rw [if_neg (by decide), gd_nI hor (by decide), ix_nI (by omega), n_63 hN, hm', ev, Option.bind_some, ha, jmx1 u (by omega) v (by omega)]
      refine ⟨_, rfl, _, rfl, by omega, fun hs => ?_⟩
      obtain ⟨hx1, hx2⟩ := hx hs
      have hsw : Sub (met ||| 2 ^ j) lk := fun s q => by
        rw [Nat.testBit_or, Nat.testBit_two_pow] at q
        rcases Bool.or_eq_true_iff.mp q with q | q
        · exact hs s q
        · have := of_decide_eq_true q
          subst this; exact g1
      obtain ⟨hs1, hs2⟩ := hs' hsw
      refine ⟨by omega, fun d hd => ?_⟩
      constructor
      · intro z
        rcases (show d < u ∨ d < v by omega) with z | z
        · rcases (hx2 d hd).mp z with z | ⟨s, h1, h2⟩
          · exact Or.inl z
          · exact Or.inr ⟨s, by omega, h2⟩
        · obtain ⟨t, h1, h2, h3, h4⟩ := (hv2 d).mp z
          have h5 := (hs2 (t + 1) (by omega)).mp h2
          rw [wo_or, show n - (t + 1) = n - t - 1 by omega] at h5
          exact Or.inr ⟨j, by omega, g, t, h1, by omega, h4, h5⟩
      · intro z
        rcases z with z | ⟨s, h1, h2, t, h3, h4, h5, h6⟩
        · have := (hx2 d hd).mpr (Or.inl z); omega
        · by_cases e : s = j
          · subst e
            rw [← wo_or, show n - t - 1 = n - (t + 1) by omega] at h6
            have := (hv2 d).mpr ⟨t, h3, (hs2 (t + 1) (by omega)).mpr h6, g1, h5⟩
            omega
          · have := (hx2 d hd).mpr (Or.inr ⟨s, by omega, h2, t, h3, h4, h5, h6⟩); omega
  · intro q a ⟨u, ha, hu, hx⟩
    refine ⟨u, hu, ?_, fun hs => ⟨(hx hs).1, fun d hd => ((hx hs).2 d hd).trans ?_⟩⟩
    · show b_X3_latestOf_L19 E M (f_X3_latestOf_L19 E M q) (ad 60) (nI met) a (nI 8) = _
      unfold b_X3_latestOf_L19
      rw [if_pos (by decide), ha]
    · by_cases e : wo lk met = 0
      · rw [e]
        exact ⟨fun _ => can_0 _ _, fun _ => Or.inl (sub_eq hs (wo_0i.mp e))⟩
      · rw [can_suf e]
        constructor
        · intro z
          rcases z with z | ⟨s, h1, h2, t, h3, h4, h5, h6⟩
          · exact absurd (wo_0i.mpr (fun s q => by rw [z]; exact q)) e
          · refine ⟨t, s, h3, by omega, h1, h2, h5, ?_⟩
            rw [show d + (n - d) - t - 1 = n - t - 1 by omega]
            exact h6
        · intro ⟨t, s, h1, h2, h3, h4, h5, h6⟩
          rw [show d + (n - d) - t - 1 = n - t - 1 by omega] at h6
          exact Or.inr ⟨s, h3, h4, t, h1, by omega, h5, h6⟩
theorem de4_sp (hN : Nm E (ad 50) (ad 0) ad) {lk n : Nat} (hn : n ≤ 40) (hl : lk < 256) (v1 : Int32) : ∀ v f (M : Mem), v < f → v ≤ 256 → MC ad M h i lk → mi M (ad 60) 4 = nI n → LaT ad M h i lk n v → ∃ Mz, f_X3_deed_L4 E f M (ad 60) v1 (nI v - 1) = f_X3_deed_L32 E FU Mz (ad 60) v1 0 (-1) 0 ∧ Off ad M Mz 63 64 ∧ LaT ad Mz h i lk n 0 := by
  intro v
  induction v with
  | zero =>
    intro f M hf _ mc hlen st
    obtain ⟨f, rfl⟩ : ∃ f', f = f' + 1 := ⟨f - 1, by omega⟩
    refine ⟨M, ?_, Off.rf, st⟩
    show b_X3_deed_L4 E (f_X3_deed_L4 E f) M (ad 60) v1 (nI 0 - 1) = _
    unfold b_X3_deed_L4
    rw [if_pos (by decide)]
  | succ v ih =>
    intro f M hf hv mc hlen st
    obtain ⟨f, rfl⟩ : ∃ f', f = f' + 1 := ⟨f - 1, by omega⟩
    show ∃ Mz, b_X3_deed_L4 E (f_X3_deed_L4 E f) M (ad 60) v1 (nI (v + 1) - 1) = _ ∧ _
    unfold b_X3_deed_L4
    obtain ⟨u, hu, eu, su⟩ := la_sp hN hn hl (show v < 256 by omega) mc hlen st
    have hI := hN.2.2.1
    have of : Off ad M (wi M (ad 63) v (nI u - 1)) 63 64 := Off_wi hI _ (by omega)
    obtain ⟨Mz, ez, oz, lz⟩ := ih f (wi M (ad 63) v (nI u - 1)) (by omega) (by omega) (MC_off of (by decide) mc) ((of.1 60 (by decide) 4).trans hlen) (fun r h1 h2 => by
      rw [mi_wi]
      by_cases e : r = v
      · subst e; exact ⟨u, hu, if_pos ⟨rfl, rfl⟩, su⟩
      · rw [if_neg (fun z => e z.2)]; exact st r (by omega) h2)
    rw [nI_pred, if_neg (nI_pos (by omega)), eu, Option.bind_some, gd_nI (by omega) (by decide), ix_nI (by omega), n_63 hN, dm1]
    exact ⟨Mz, ez, of.tr oz, lz⟩
end Al56
