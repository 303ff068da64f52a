/-! the reference's stand and people -/
section Model36
/-- a stand in a row of ints -/
def BS (f : Nat → Int32) (o p : Nat) (s : Sd) : Prop := f o = nI (sT s) ∧ f (o + 1) = nI (sC s) ∧ (∀ i, i < p → f (o + 2 + i) = nI (sN s i)) ∧ (∀ i, i < p → f (o + 8 + i) = nI (sP s i) - 1) ∧ ∀ k, k < 8 → f (o + 14 + k) = nI (sS s k)
/-- a house in a row of ints -/
def IB (f : Nat → Int32) (h : Ho) : Prop := f 22 = nI (oP h) ∧ (∀ i, i < oP h → f (27 + i) = nI (oK h i)) ∧ (∀ i, i < oP h → f (33 + i) = nI (oW h i)) ∧ BS f 0 (oP h) (oS h) ∧ f 26 = nI (oU h) ∧ (∀ j, j < oU h → BS f (105 + 22 * j) (oP h) (oL h j)) ∧ f 23 = nI (oA h) ∧ f 24 = nI (oB h) ∧ f 25 = nI (oC h) ∧ (∀ k, k < 3 * oA h → f (39 + k) = oX h k) ∧ (∀ k, k < 4 * oB h → f (57 + k) = oY h k) ∧ ∀ k, k < 4 * oC h → f (81 + k) = oZ h k
/-- the reference's stand -/
def ML (ad : Nat → Nat) (M : Mem) (p : Nat) (s : Sd) : Prop := mi M (ad 0) 2 = nI (sT s) ∧ mi M (ad 0) 3 = nI (sC s) ∧ (∀ i, i < p → mi M (ad 10) i = nI (sN s i)) ∧ (∀ i, i < p → mi M (ad 9) i = nI (sP s i) - 1) ∧ ∀ k, k < 8 → mi M (ad 11) k = nI (sS s k)
def RO (ad : Nat → Nat) (M : Mem) (h : Ho) : Prop := mi M (ad 0) 1 = nI (oP h) ∧ (∀ i, i < oP h → mi M (ad 7) i = nI (oK h i)) ∧ (∀ i, i < oP h → mi M (ad 8) i = nI (oW h i)) ∧ ML ad M (oP h) (oS h)
variable {E : Env1} {x m : Nat} {ad : Nat → Nat} {M M1 : Mem} {p : Nat} {s : Sd} {h : Ho}
theorem ML_BS (hp : p ≤ 6) : BS (lv ad M) 0 p s ↔ ML ad M p s := by
  constructor
  · intro ⟨h1, h2, h3, h4, h5⟩
    exact ⟨h1, h2, fun i hi => by have := h3 i hi; rwa [Nat.zero_add, lv_kn (by omega)] at this, fun i hi => by have := h4 i hi; rwa [Nat.zero_add, lv_pl (by omega)] at this, fun i hi => by have := h5 i hi; rwa [Nat.zero_add, lv_st hi] at this⟩
  · intro ⟨h1, h2, h3, h4, h5⟩
    exact ⟨h1, h2, fun i hi => by rw [Nat.zero_add, lv_kn (by omega)]; exact h3 i hi, fun i hi => by rw [Nat.zero_add, lv_pl (by omega)]; exact h4 i hi, fun i hi => by rw [Nat.zero_add, lv_st hi]; exact h5 i hi⟩
theorem RO_of (hp : oP h ≤ 6) (hB : IB (lv ad M) h) : RO ad M h := by
  obtain ⟨h1, h2, h3, h4, -⟩ := hB
  exact ⟨h1, fun i hi => by have := h2 i hi; rwa [lv_kd (by omega)] at this, fun i hi => by have := h3 i hi; rwa [lv_wt (by omega)] at this, (ML_BS hp).mp h4⟩
theorem has_eq {E : Env1} {M : Mem} {v k : Nat} (hv : v < 2 ^ 31) (hk : k < 32) : f_X9_has E M (nI v) (nI k) = if v.testBit k then 1 else 0 := by
  unfold f_X9_has
  simp only [bitN hv hk]
theorem dbl (v : Nat) : nI v <<< ((1 : Int32) &&& 31) = nI (v * 2 ^ 1) ∨ ¬ v < 256 := by
  by_cases h : v < 256
  · exact Or.inl (pk_shlN ((1 : Int32) &&& 31) 1 (by decide) (by omega))
  · exact Or.inr h
theorem told_alt {v : Nat} : v ||| (v * 2 ^ 1 &&& setOf 8 (openC s)) = told s v := by
  refine eq_tb fun i => ?_
  unfold told
  rw [Nat.testBit_or, Nat.testBit_or, Nat.testBit_and, Nat.testBit_mul_two_pow, tb_set, tb_set]
  unfold openC
  by_cases h : 1 ≤ i
  · rw [decide_eq_true (show i ≥ 1 from h), decide_eq_true (show 0 < i by omega)]
    cases decide (i < 8) <;> cases v.testBit (i - 1) <;> rfl
  · rw [decide_eq_false (show ¬ i ≥ 1 from h), decide_eq_false (show ¬ 0 < i by omega)]
    cases v.testBit (i - 1) <;> simp
theorem passes_eq (hN : Nm E x m ad) (hp : p ≤ 6) (hC : sC s < 128) (h6 : ∀ k, k < 8 → sS s k < 6) (hk : ∀ i, sN s i < 256) (hm : mi M (ad 0) 1 = nI p) (hM : ML ad M p s) : f_X9_passes E M m = some (wi (upR M (ad 10) 0 p (fun i => nI (told s (sN s i)))) (ad 0) 2 (nI (sT s + 1))) := by
  obtain ⟨h1, h2, h3, h4, h5⟩ := hM
  have ne : ∀ a b, a ≠ b → ad a ≠ ad b := fun a b h e => h (hN.2.2.1 a b e)
  have e0 := hN.1
  unfold f_X9_passes
  obtain ⟨n, e⟩ := loop_FUj (fun n (a : Int32) w => f_X9_passes_L4 E n M m a w) (fun j => nI (setOf j (openC s))) 1 8 (by decide) (by decide) (by
    intro n j h1j hj
    show b_X9_passes_L4 E (f_X9_passes_L4 E n) M m _ (nI j) = _
    unfold b_X9_passes_L4
    have ej : nI j - 1 = nI (j - 1) := by
      obtain ⟨i, rfl⟩ : ∃ i, j = i + 1 := ⟨j - 1, by omega⟩
      rw [nI_pred, Nat.add_sub_cancel]
    have e4 : (nI (sS s j) = (4 : Int32)) = (sS s j = 4) := nIe (b := 4) (by have := h6 j hj; omega) (by decide)
    have e0' : (nI (sS s j) = 0) = (sS s j = 0) := nIe0 (by have := h6 j hj; omega)
    dsimp only [nm]
    rw [if_neg (lt8 hj), ej, ← e0, h2, has_eq (by omega) (by omega), gd_nI hj (by decide), ix_nI (by omega), e0, n_11 hN, h5 j hj, shl1 (by omega), nI_1]
    simp only [e4, e0', show ∀ a, nI a ||| (0 : Int32) = nI a from fun a => (nI_or a 0).trans (by rw [Nat.or_zero])]
    show _ = f_X9_passes_L4 E n M m (nI (setOf j (openC s) ||| if openC s j then 2 ^ j else 0)) _
    unfold openC
    rw [decide_eq_true (show 0 < j by omega)]
    cases hd : (sC s).testBit (j - 1) <;> by_cases z0 : sS s j = 0 <;> by_cases z4 : sS s j = 4 <;> simp [z0, z4, nI_or])
  have hz : setOf 1 (openC s) = 0 := by simp [setOf, openC]
  rw [hz] at e
  refine e.trans ?_
  show b_X9_passes_L4 E (f_X9_passes_L4 E n) M m _ (nI 8) = _
  unfold b_X9_passes_L4
  rw [if_pos (by decide)]
  obtain ⟨n', e'⟩ := loop_FU (fun n (a : Mem) w => f_X9_passes_L60 E n a m (nI (setOf 8 (openC s))) w) (fun j => upR M (ad 10) 0 j (fun i => nI (told s (sN s i)))) p (by omega) (by
    intro n j hj
    show b_X9_passes_L60 E (f_X9_passes_L60 E n) _ m _ (nI j) = _
    unfold b_X9_passes_L60
    dsimp only [nm]
    have hmj : mi (upR M (ad 10) 0 j (fun i => nI (told s (sN s i)))) m 1 = nI p := by rw [mi_upR, if_neg (fun z => ne 0 10 (by omega) (e0.trans z.1)), ← e0]; exact hm
    rw [hmj, if_neg (le_n hj (by omega)), gd_nI (by omega) (by decide), ix_nI (by omega), n_10 hN, mi_upR, if_neg (by omega), h3 j hj, (dbl _).resolve_right (fun z => z (hk j)), nI_and, nI_or, told_alt, nI_1, upR_s _ _ _ _ _ _ (by omega) _ rfl])
  rw [upR_0] at e'
  refine e'.trans ?_
  show b_X9_passes_L60 E (f_X9_passes_L60 E n') _ m _ (nI p) = _
  unfold b_X9_passes_L60
  have hmj : mi (upR M (ad 10) 0 p (fun i => nI (told s (sN s i)))) m 1 = nI p := by rw [mi_upR, if_neg (fun z => ne 0 10 (by omega) (e0.trans z.1)), ← e0]; exact hm
  rw [hmj, if_pos (nI_le (Nat.le_refl _) (by omega)), mi_upR, if_neg (fun z => ne 0 10 (by omega) (e0.trans z.1)), ← e0, h1, nI_1]
/-- only the stand's cells changed -/
def StM (ad : Nat → Nat) (M M1 : Mem) : Prop := (∀ n, n ≠ 0 → n ≠ 9 → n ≠ 10 → n ≠ 11 → ∀ k, mi M1 (ad n) k = mi M (ad n) k) ∧ (∀ k, k ≠ 2 → k ≠ 3 → mi M1 (ad 0) k = mi M (ad 0) k) ∧ M1.2 = M.2
theorem StM.tr {M2 : Mem} (a : StM ad M M1) (b : StM ad M1 M2) : StM ad M M2 := ⟨fun n h1 h2 h3 h4 k => (b.1 n h1 h2 h3 h4 k).trans (a.1 n h1 h2 h3 h4 k), fun k h1 h2 => (b.2.1 k h1 h2).trans (a.2.1 k h1 h2), b.2.2.trans a.2.2⟩
theorem StM.rf : StM ad M M := ⟨fun _ _ _ _ _ _ => rfl, fun _ _ _ => rfl, rfl⟩
theorem StM_wi (hI : ∀ n n', ad n = ad n' → n = n') {a k : Nat} {v : Int32} (h : a = 9 ∨ a = 10 ∨ a = 11 ∨ (a = 0 ∧ (k = 2 ∨ k = 3))) : StM ad M (wi M (ad a) k v) := ⟨fun n h1 h2 h3 h4 j => by rw [mi_wi, if_neg (fun z => by have := hI _ _ z.1; omega)], fun j h1 h2 => by rw [mi_wi, if_neg (fun z => by have := hI _ _ z.1; omega)], rfl⟩
theorem StM_upR (hI : ∀ n n', ad n = ad n' → n = n') {a l k : Nat} {v : Nat → Int32} (h : a = 9 ∨ a = 10 ∨ a = 11) : StM ad M (upR M (ad a) l k v) := ⟨fun n h1 h2 h3 h4 j => by rw [mi_upR, if_neg (fun z => by have := hI _ _ z.1; omega)], fun j h1 h2 => by rw [mi_upR, if_neg (fun z => by have := hI _ _ z.1; omega)], rfl⟩
/-- the row behind the stand, if these cells are as they were -/
theorem lv_same (h0 : ∀ k, (k = 1 ∨ k = 4 ∨ k = 5 ∨ k = 6 ∨ k = 21) → mi M1 (ad 0) k = mi M (ad 0) k) (h1 : ∀ n, (n = 7 ∨ n = 8 ∨ n = 12 ∨ n = 13 ∨ n = 14 ∨ n = 20) → ∀ k, mi M1 (ad n) k = mi M (ad n) k) : ∀ k, 22 ≤ k → lv ad M1 k = lv ad M k := by
  intro k hk
  unfold lv
  simp only [if_neg (show ¬ k = 0 by omega), if_neg (show ¬ k = 1 by omega), if_neg (show ¬ k < 8 by omega), if_neg (show ¬ k < 14 by omega), if_neg (show ¬ k < 22 by omega), h0 1 (by omega), h0 4 (by omega), h0 5 (by omega), h0 6 (by omega), h0 21 (by omega), h1 7 (by omega), h1 8 (by omega), h1 12 (by omega), h1 13 (by omega), h1 14 (by omega), h1 20 (by omega)]
theorem StM.lv (a : StM ad M M1) : ∀ k, 22 ≤ k → lv ad M1 k = lv ad M k := lv_same (fun k hk => a.2.1 k (by omega) (by omega)) (fun n hn => a.1 n (by omega) (by omega) (by omega) (by omega))
theorem IB_withS {f g : Nat → Int32} {s' : Sd} (hB : IB f h) (hg : ∀ k, 22 ≤ k → g k = f k) (hs : BS g 0 (oP h) s') : IB g (withS h s') := by
  obtain ⟨h1, h2, h3, h4, h5, h6, h7, h8, h9, g1, g2, g3⟩ := hB
  refine ⟨(hg _ (by omega)).trans h1, fun i hi => (hg _ (by omega)).trans (h2 i hi), fun i hi => (hg _ (by omega)).trans (h3 i hi), hs, (hg _ (by omega)).trans h5, fun j hj => ?_, (hg _ (by omega)).trans h7, (hg _ (by omega)).trans h8, (hg _ (by omega)).trans h9, fun k hk => (hg _ (by omega)).trans (g1 k hk), fun k hk => (hg _ (by omega)).trans (g2 k hk), fun k hk => (hg _ (by omega)).trans (g3 k hk)⟩
  obtain ⟨a1, a2, a3, a4, a5⟩ := h6 j hj
  exact ⟨(hg _ (by omega)).trans a1, (hg _ (by omega)).trans a2, fun i hi => (hg _ (by omega)).trans (a3 i hi), fun i hi => (hg _ (by omega)).trans (a4 i hi), fun i hi => (hg _ (by omega)).trans (a5 i hi)⟩
theorem RO_St {s' : Sd} (a : StM ad M M1) (r : RO ad M h) (hs : ML ad M1 (oP h) s') : RO ad M1 (withS h s') := ⟨(a.2.1 1 (by omega) (by omega)).trans r.1, fun i hi => (a.1 7 (by omega) (by omega) (by omega) (by omega) i).trans (r.2.1 i hi), fun i hi => (a.1 8 (by omega) (by omega) (by omega) (by omega) i).trans (r.2.2.1 i hi), hs⟩
theorem passes_sp (hN : Nm E x m ad) (hp : p ≤ 6) (ho : okS p s) (hm : mi M (ad 0) 1 = nI p) (hM : ML ad M p s) : ∃ M1, f_X9_passes E M m = some M1 ∧ ML ad M1 p (passS s) ∧ StM ad M M1 := by
  have hI := hN.2.2.1
  have ne : ∀ a b, a ≠ b → ad a ≠ ad b := fun a b h e => h (hI a b e)
  refine ⟨_, passes_eq hN hp ho.2.1 ho.2.2.1 ho.2.2.2.1 hm hM, ?_, (StM_upR hI (by omega)).tr (StM_wi hI (by omega))⟩
  obtain ⟨h1, h2, h3, h4, h5⟩ := hM
  refine ⟨?_, ?_, fun k hk => ?_, fun k hk => ?_, fun k hk => ?_⟩
  · rw [mi_wi, if_pos ⟨rfl, rfl⟩]; rfl
  · rw [mi_wi, if_neg (by omega), mi_upR, if_neg (fun z => ne _ _ (by omega) z.1)]; exact h2
  · rw [mi_wi, if_neg (fun z => ne _ _ (by omega) z.1), mi_upR, if_pos ⟨rfl, by omega, by omega⟩]; rfl
  · rw [mi_wi, if_neg (fun z => ne _ _ (by omega) z.1), mi_upR, if_neg (fun z => ne _ _ (by omega) z.1)]; exact h4 k hk
  · rw [mi_wi, if_neg (fun z => ne _ _ (by omega) z.1), mi_upR, if_neg (fun z => ne _ _ (by omega) z.1)]; exact h5 k hk
theorem ifI (c : Prop) [Decidable c] (a b : Nat) : (if c then nI a else nI b) = nI (if c then a else b) := by split <;> rfl
theorem bits_eq (E : Env1) (M : Mem) {v : Nat} (h : v < 256) : f_X9_bits E M (nI v) = some (nI (popc v)) := by
  unfold f_X9_bits
  obtain ⟨n, e⟩ := loop_FU (fun n (a : Int32) w => f_X9_bits_L4 E M n (nI v) a w) (fun j => nI (sumO j (fun k => if v.testBit k then 1 else 0))) 8 (by decide) (by
    intro n j hj
    show b_X9_bits_L4 E M (f_X9_bits_L4 E M n) (nI v) _ (nI j) = _
    unfold b_X9_bits_L4
    dsimp only [nm]
    rw [if_neg (lt8 hj), shrb (by omega) (by omega), nI_1, show ((1 : Int32)) = nI 1 from rfl, show ((0 : Int32)) = nI 0 from rfl, ifI, nI_add]
    rfl)
  refine e.trans ?_
  show b_X9_bits_L4 E M (f_X9_bits_L4 E M n) (nI v) _ (nI 8) = _
  unfold b_X9_bits_L4
  rw [if_pos (by decide)]
  rfl
theorem knownAll_eq (hN : Nm E x m ad) (hp : p ≤ 6) (hk : ∀ i, sN s i < 256) (hm : mi M (ad 0) 1 = nI p) (hM : ML ad M p s) : f_X9_knownAll E M m = some (nI (knownAllN p s)) := by
  unfold f_X9_knownAll
  have e0 := hN.1
  obtain ⟨n, e⟩ := loop_FU (fun n (a : Int32) w => f_X9_knownAll_L4 E M n m a w) (fun j => nI (knownAllN j s)) p (by omega) (by
    intro n j hj
    show b_X9_knownAll_L4 E M (f_X9_knownAll_L4 E M n) m _ (nI j) = _
    unfold b_X9_knownAll_L4
    rw [← e0, hm, if_neg (le_n hj (by omega)), gd_nI (by omega) (by decide), ix_nI (by omega), e0, n_10 hN, hM.2.2.1 j hj, bits_eq E M (hk j), Option.bind_some, nI_add, nI_1]
    rfl)
  refine e.trans ?_
  show b_X9_knownAll_L4 E M (f_X9_knownAll_L4 E M n) m _ (nI p) = _
  unfold b_X9_knownAll_L4
  rw [← e0, hm, if_pos (nI_le (Nat.le_refl _) (by omega))]
theorem knownAll_6 (ho : okS p s) (hp : p ≤ 6) : knownAllN 6 s = knownAllN p s := sum_more hp (fun _ _ => rfl) (fun i h1 _ => by rw [(ho.2.2.2.2.2 i h1).1]; exact popc_0)
theorem atTop_6 (ho : okS p s) (hp : p ≤ 6) : atTopN 6 s = atTopN p s := sum_more hp (fun _ _ => rfl) (fun i h1 _ => by rw [(ho.2.2.2.2.2 i h1).2]; rfl)
theorem topMany_eq (hN : Nm E x m ad) (hp : p ≤ 6) (ho : okS p s) (hm : mi M (ad 0) 1 = nI p) (hM : ML ad M p s) : f_X9_topMany E M m = some (nI (atTopN p s)) := by
  unfold f_X9_topMany
  have e0 := hN.1
  obtain ⟨n, e⟩ := loop_FU (fun n (a : Int32) w => f_X9_topMany_L4 E M n m a w) (fun j => nI (atTopN j s)) p (by omega) (by
    intro n j hj
    show b_X9_topMany_L4 E M (f_X9_topMany_L4 E M n) m _ (nI j) = _
    unfold b_X9_topMany_L4
    dsimp only [nm]
    rw [← e0, hm, if_neg (le_n hj (by omega)), gd_nI (by omega) (by decide), ix_nI (by omega), e0, n_9 hN, hM.2.2.2.1 j hj, nI_1]
    simp only [pl8 (ho.2.2.2.2.1 j)]
    show _ = f_X9_topMany_L4 E M n m (nI (atTopN j s + if sP s j = 9 then 1 else 0)) _
    by_cases e9 : sP s j = 9
    · rw [if_pos e9, if_pos e9, ← nI_add (atTopN j s) 1]; rfl
    · rw [if_neg e9, if_neg e9, ← nI_add (atTopN j s) 0]; rfl)
  refine e.trans ?_
  show b_X9_topMany_L4 E M (f_X9_topMany_L4 E M n) m _ (nI p) = _
  unfold b_X9_topMany_L4
  rw [← e0, hm, if_pos (nI_le (Nat.le_refl _) (by omega))]
theorem whoKnows_eq (hN : Nm E x m ad) {k : Nat} (hk : k < 32) (hp : p ≤ 6) (hv : ∀ i, sN s i < 256) (hm : mi M (ad 0) 1 = nI p) (hM : ML ad M p s) : f_X9_whoKnows E M m (nI k) = some (nI (setOf p (fun i => (sN s i).testBit k))) := by
  unfold f_X9_whoKnows
  have e0 := hN.1
  obtain ⟨n, e⟩ := loop_FU (fun n (a : Int32) w => f_X9_whoKnows_L4 E M n m (nI k) a w) (fun j => nI (setOf j (fun i => (sN s i).testBit k))) p (by omega) (by
    intro n j hj
    show b_X9_whoKnows_L4 E M (f_X9_whoKnows_L4 E M n) m _ _ (nI j) = _
    unfold b_X9_whoKnows_L4
    dsimp only [nm]
    rw [← e0, hm, if_neg (le_n hj (by omega)), gd_nI (by omega) (by decide), ix_nI (by omega), e0, n_10 hN, hM.2.2.1 j hj, has_eq (by have := hv j; omega) hk, shl1 (by omega), nI_1]
    have e2 : (if (if (sN s j).testBit k then (1 : Int32) else 0) = 0 then (0 : Int32) else nI (2 ^ j)) = nI (if (sN s j).testBit k then 2 ^ j else 0) := by cases (sN s j).testBit k <;> rfl
    rw [e2, nI_or]
    rfl)
  refine e.trans ?_
  show b_X9_whoKnows_L4 E M (f_X9_whoKnows_L4 E M n) m _ _ (nI p) = _
  unfold b_X9_whoKnows_L4
  rw [← e0, hm, if_pos (nI_le (Nat.le_refl _) (by omega))]
theorem who_6 (ho : okS p s) (hp : p ≤ 6) (k : Nat) : setOf 6 (fun i => (sN s i).testBit k) = setOf p (fun i => (sN s i).testBit k) := set_ext fun i => by
  by_cases h : i < p
  · rw [decide_eq_true h, decide_eq_true (show i < 6 by omega)]
  · rw [decide_eq_false h, (ho.2.2.2.2.2 i (by omega)).1, Nat.zero_testBit, Bool.and_false, Bool.and_false]
/-! words -/
theorem wants9_eq (hN : Nm E x m ad) {i k T : Nat} (ho : okP h) (hi : i < oP h) (hk : k < 8) (r : RO ad M h) : f_X9_wants E M m (nI i) (nI k) (nI (T % 24)) = some (nI (wantN h i k T)) := by
  have h6 : i < 6 := Nat.lt_of_lt_of_le hi ho.1
  unfold f_X9_wants
  rw [gd_nI hk (by decide), gd_nI h6 (by decide), ix_nI (by omega), ix_nI (by omega), n_11 hN, n_8 hN, r.2.2.2.2.2.2.2 k hk, r.2.2.1 i hi, wan_eq E M (ho.2.2.2.2.2.1 k hk) (ho.2.2.1 i hi) (Nat.mod_lt _ (by decide))]
  rfl
theorem worth9_eq (hN : Nm E x m ad) {i T : Nat} (ho : okP h) (hi : i < oP h) (r : RO ad M h) : f_X9_worth E M m (nI i) (nI (T % 24)) = some (nI (worN (oK h i) (sP (oS h) i) (T % 24))) := by
  have h6 : i < 6 := Nat.lt_of_lt_of_le hi ho.1
  unfold f_X9_worth
  rw [gd_nI h6 (by decide), ix_nI (by omega), n_7 hN, n_9 hN, r.2.1 i hi, r.2.2.2.2.2.2.1 i hi, wor_eq E M (ho.2.1 i hi) (ho.2.2.2.2.2.2.2.1 i) (Nat.mod_lt _ (by decide))]
theorem day_eq (hN : Nm E x m ad) (ht : sT (oS h) < 2 ^ 31) (r : RO ad M h) : f_X9_dayMinute E M m = nI (sT (oS h) % 24) := by
  unfold f_X9_dayMinute
  rw [← hN.1, r.2.2.2.1, rem24 ht]
theorem others_tb (h : Ho) (i k j : Nat) : (othersN h i k).testBit j = (decide (j < 6) && (sN (oS h) j).testBit k && decide (j ≠ i)) := by
  unfold othersN
  rw [tb_wo, tb_set, Nat.testBit_two_pow]
  by_cases e : i = j
  · subst e; simp
  · rw [decide_eq_false e, decide_eq_true (show j ≠ i from fun z => e z.symm)]; rfl
theorem wordFor_eq (hN : Nm E x m ad) {i k T : Nat} (ho : okP h) (hi : i < 6) (hk : k < 8) (r : RO ad M h) : f_X9_wordFor E M m (nI i) (nI k) (nI (T % 24)) = some (nI (wordN h (othersN h i k) T)) := by
  have hp : oP h ≤ 6 := ho.1
  unfold f_X9_wordFor
  have e0 := hN.1
  obtain ⟨n, e⟩ := loop_FU (fun n (a : Int32) w => f_X9_wordFor_L6 E M n m (nI i) (nI k) (nI (T % 24)) a w) (fun j => nI (sumO j (fun j => if (othersN h i k).testBit j then worN (oK h j) (sP (oS h) j) (T % 24) else 0))) (oP h) (by omega) (by
    intro n j hj
    show b_X9_wordFor_L6 E M (f_X9_wordFor_L6 E M n) m _ _ _ _ (nI j) = _
    unfold b_X9_wordFor_L6
    rw [← e0, r.1, if_neg (le_n hj (by omega)), gd_nI (by omega) (by decide), ix_nI (by omega), e0, n_10 hN, r.2.2.2.2.2.1 j hj, has_eq (by have := ho.2.2.2.2.2.2.1 j; omega) (by omega), worth9_eq hN ho hj r, Option.bind_some, nI_1, nI_add]
    show _ = f_X9_wordFor_L6 E M n m _ _ _ (nI (sumO j _ + if (othersN h i k).testBit j then worN (oK h j) (sP (oS h) j) (T % 24) else 0)) _
    simp only [nIe (show j < 2 ^ 31 by omega) (show i < 2 ^ 31 by omega), show ∀ a : Int32, a + 0 = a from fun a => Int32.add_zero a]
    rw [others_tb, decide_eq_true (show j < 6 by omega), Bool.true_and]
    by_cases e1 : j = i
    · rw [if_pos e1, decide_eq_false (show ¬ j ≠ i from fun z => z e1), Bool.and_false]; rfl
    · rw [if_neg e1, decide_eq_true e1, Bool.and_true]
      cases (sN (oS h) j).testBit k <;> rfl)
  refine e.trans ?_
  show b_X9_wordFor_L6 E M (f_X9_wordFor_L6 E M n) m _ _ _ _ (nI (oP h)) = _
  unfold b_X9_wordFor_L6
  rw [← e0, r.1, if_pos (nI_le (Nat.le_refl _) (by omega))]
  rfl
theorem mayMeet_eq (hN : Nm E x m ad) {i k T : Nat} (ho : okP h) (hi : i < oP h) (hk : k < 8) (r : RO ad M h) : f_X9_mayMeet E M m (nI i) (nI k) (nI (T % 24)) = some (if wantN h i k T ≤ wordN h (othersN h i k) T then 1 else 0) := by
  have h6 : i < 6 := Nat.lt_of_lt_of_le hi ho.1
  unfold f_X9_mayMeet
  rw [wordFor_eq hN ho h6 hk r, Option.bind_some, wants9_eq hN ho hi hk r, Option.bind_some]
  have e := nI_ltI (a := wordN h (othersN h i k) T) (b := wantN h i k T) (by have := word_le h (othersN h i k) T ho.1; omega) (by have := wan_le (sS (oS h) k) (oW h i) (T % 24); have := ho.2.2.1 i hi; unfold wantN; omega)
  by_cases g : wantN h i k T ≤ wordN h (othersN h i k) T
  · rw [if_neg (fun z => by have := e.mp z; omega), if_pos g]
  · rw [if_pos (e.mpr (by omega)), if_neg g]
/-- an introduction, if it goes -/
def learnB (h : Ho) (i k : Nat) : Sd := if meetB h i k (othersN h i k) (sT (oS h)) then learnS (oS h) i k else oS h
theorem upN_self (f : Nat → Nat) (i : Nat) : upN f i (f i) = f := funext fun j => by unfold upN; split; (rename_i e; rw [e]); rfl
theorem learns_sp (hN : Nm E x m ad) {i k : Nat} (ho : okP h) (hi : i < oP h) (hk : k < 8) (r : RO ad M h) : ∃ M1, f_X9_learns E M m (nI i) (nI k) = some M1 ∧ ML ad M1 (oP h) (learnB h i k) ∧ StM ad M M1 := by
  have h6 : i < 6 := Nat.lt_of_lt_of_le hi ho.1
  have hT : sT (oS h) < 2 ^ 31 := by have := ho.2.2.2.1; omega
  have ne : ∀ a b, a ≠ b → ad a ≠ ad b := fun a b h e => h (hN.2.2.1 a b e)
  unfold f_X9_learns
  dsimp only [nm]
  rw [gd_nI h6 (by decide), day_eq hN hT r, mayMeet_eq hN ho hi hk r, Option.bind_some, ix_nI (by omega), n_10 hN, r.2.2.2.2.2.1 i hi, shl1 (by omega)]
  have key : (nI (sN (oS h) i) ||| if (if wantN h i k (sT (oS h)) ≤ wordN h (othersN h i k) (sT (oS h)) then (1 : Int32) else 0) = 0 then 0 else nI (2 ^ k)) = nI (sN (learnB h i k) i) := by
    unfold learnB meetB
    by_cases g : wantN h i k (sT (oS h)) ≤ wordN h (othersN h i k) (sT (oS h))
    · rw [if_pos g, if_neg (by decide), decide_eq_true g, Bool.or_true, if_pos rfl, nI_or]
      show _ = nI (upN (sN (oS h)) i (sN (oS h) i ||| 2 ^ k) i)
      unfold upN
      rw [if_pos rfl]
    · rw [if_neg g, if_pos rfl, decide_eq_false g, Bool.or_false]
      have e0 : nI (sN (oS h) i) ||| 0 = nI (sN (oS h) i) := (nI_or _ 0).trans (by rw [Nat.or_zero])
      rw [e0]
      cases hb : (sN (oS h) i).testBit k
      · rw [if_neg (by decide)]
      · rw [if_pos rfl]
        show _ = nI (upN (sN (oS h)) i (sN (oS h) i ||| 2 ^ k) i)
        unfold upN
        rw [if_pos rfl]
        have : sN (oS h) i ||| 2 ^ k = sN (oS h) i := by
          refine eq_tb fun j => ?_
          rw [Nat.testBit_or, Nat.testBit_two_pow]
          by_cases e : k = j
          · subst e; rw [hb]; rfl
          · rw [decide_eq_false e, Bool.or_false]
        rw [this]
  rw [key]
  have same : sT (learnB h i k) = sT (oS h) ∧ sC (learnB h i k) = sC (oS h) ∧ sS (learnB h i k) = sS (oS h) ∧ sP (learnB h i k) = sP (oS h) ∧ ∀ j, j ≠ i → sN (learnB h i k) j = sN (oS h) j := by
    unfold learnB
    split
    · refine ⟨rfl, rfl, rfl, rfl, fun j hj => ?_⟩
      show upN (sN (oS h)) i (sN (oS h) i ||| 2 ^ k) j = _
      unfold upN
      rw [if_neg hj]
    · exact ⟨rfl, rfl, rfl, rfl, fun _ _ => rfl⟩
  obtain ⟨s1, s2, s3, s4, s5⟩ := same
  obtain ⟨h1, h2, h3, h4, h5⟩ := r.2.2.2
  refine ⟨_, rfl, ⟨?_, ?_, fun j hj => ?_, fun j hj => ?_, fun j hj => ?_⟩, StM_wi hN.2.2.1 (by omega)⟩
  · rw [mi_wi, if_neg (fun z => ne _ _ (by omega) z.1), s1]; exact h1
  · rw [mi_wi, if_neg (fun z => ne _ _ (by omega) z.1), s2]; exact h2
  · rw [mi_wi]
    by_cases e : j = i
    · subst e; rw [if_pos ⟨rfl, rfl⟩]
    · rw [if_neg (fun z => e z.2), s5 j e]; exact h3 j hj
  · rw [mi_wi, if_neg (fun z => ne _ _ (by omega) z.1), s4]; exact h4 j hj
  · rw [mi_wi, if_neg (fun z => ne _ _ (by omega) z.1), s3]; exact h5 j hj
theorem meetS_eq (h : Ho) (i k : Nat) : meetS h i k = passS (learnB h i k) := rfl
theorem okS_learnB {i k : Nat} (ho : okP h) (hi : i < oP h) (hk : k < 8) : okS (oP h) (learnB h i k) := by
  unfold learnB
  split
  · exact okS_learn ho.2.2.2 hi hk
  · exact ho.2.2.2
end Model36
