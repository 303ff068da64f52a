/-! a stand, as it is thought: (minute, carpets, steps' kinds, who knows what, places + 1); the class's methods on it -/
section Stand32
abbrev Sd : Type := Nat × Nat × (Nat → Nat) × (Nat → Nat) × (Nat → Nat)
def sT (s : Sd) : Nat := s.1
def sC (s : Sd) : Nat := s.2.1
def sS (s : Sd) : Nat → Nat := s.2.2.1
def sN (s : Sd) : Nat → Nat := s.2.2.2.1
def sP (s : Sd) : Nat → Nat := s.2.2.2.2
def okS (p : Nat) (s : Sd) : Prop := sT s < 20000 ∧ sC s < 128 ∧ (∀ k, k < 8 → sS s k < 6) ∧ (∀ i, sN s i < 256) ∧ (∀ i, sP s i ≤ 9) ∧ ∀ i, p ≤ i → sN s i = 0 ∧ sP s i = 0
/-- the class's stand -/
def CS (ad : Nat → Nat) (M : Mem) (S : Nat) (s : Sd) : Prop := (∀ k, k < 8 → mi M (ad (S + 1)) k = nI (sS s k)) ∧ (∀ i, i < 6 → mi M (ad (S + 2)) i = nI (sN s i)) ∧ (∀ i, i < 6 → mi M (ad (S + 3)) i = nI (sP s i) - 1) ∧ mi M (ad S) 3 = nI (sC s) ∧ mi M (ad S) 4 = nI (sT s)
def openC (s : Sd) (b : Nat) : Bool := decide (0 < b) && (sC s).testBit (b - 1) && (decide (sS s b = 0) || decide (sS s b = 4))
def told (s : Sd) (v : Nat) : Nat := v ||| setOf 8 (fun b => v.testBit (b - 1) && openC s b)
def passS (s : Sd) : Sd := (sT s + 1, sC s, sS s, fun i => told s (sN s i), sP s)
theorem told_lt {s : Sd} {v : Nat} (h : v < 256) : told s v < 256 := or_lt (n := 8) h (set_lt 8 _)
theorem told_0 (s : Sd) : told s 0 = 0 := by
  refine eq_tb fun i => ?_
  unfold told
  rw [Nat.testBit_or, tb_set]
  simp
theorem okS_pass {p : Nat} {s : Sd} (h : okS p s) (ht : sT s + 1 < 20000) : okS p (passS s) :=
  ⟨ht, h.2.1, h.2.2.1, fun i => told_lt (h.2.2.2.1 i), h.2.2.2.2.1, fun i hi => ⟨by
    show told s (sN s i) = 0
    rw [(h.2.2.2.2.2 i hi).1]
    exact told_0 s, (h.2.2.2.2.2 i hi).2⟩⟩
theorem and2 (w j : Nat) : (w &&& 2 ^ j = 0) = (w.testBit j = false) := by
  apply propext
  constructor
  · intro h
    have := congrArg (fun z => Nat.testBit z j) h
    simp only [Nat.testBit_and, Nat.testBit_two_pow_self, Nat.zero_testBit, Bool.and_true] at this
    exact this
  · intro h
    refine eq_tb fun i => ?_
    rw [Nat.testBit_and, Nat.testBit_two_pow, Nat.zero_testBit]
    by_cases e : j = i
    · subst e; rw [h]; rfl
    · rw [decide_eq_false e, Bool.and_false]
theorem lt6 {j : Nat} (h : j < 6) : ¬ (6 : Int32) ≤ nI j := nI_ge (a := j) (b := 6) h (by decide)
theorem lt8 {j : Nat} (h : j < 8) : ¬ (8 : Int32) ≤ nI j := nI_ge (a := j) (b := 8) h (by decide)
theorem lt7 {j : Nat} (h : j < 7) : ¬ (7 : Int32) ≤ nI j := nI_ge (a := j) (b := 7) h (by decide)
theorem le_n {n j : Nat} (h : j < n) (hn : n < 2 ^ 31) : ¬ nI n ≤ nI j := nI_ge h hn
theorem tbI (c : Bool) : ((if c then (1 : Int32) else 0) = 0) = (c = false) := by cases c <;> simp
theorem nIe {a b : Nat} (ha : a < 2 ^ 31) (hb : b < 2 ^ 31) : (nI a = nI b) = (a = b) := propext (nI_eq ha hb)
theorem nIe0 {a : Nat} (ha : a < 2 ^ 31) : (nI a = 0) = (a = 0) := nIe (b := 0) ha (by decide)
variable {E : Env1} {x m : Nat} {ad : Nat → Nat} {M : Mem} {S : Nat} {s : Sd}
theorem isKnown_eq (hS : SN E ad S) {i k v : Nat} (hi : i < 6) (hk : k < 32) (hv : v < 256) (h : mi M (ad (S + 2)) i = nI v) : f_X5_isKnown E M (ad S) (nI i) (nI k) = some (if v.testBit k then 1 else 0) := by
  unfold f_X5_isKnown
  rw [gd_nI hi (by decide), hS.2.1, ix_nI (by omega), h, shrb (by omega) hk]
  cases v.testBit k <;> rfl
theorem knowers_eq (hS : SN E ad S) {k : Nat} (hk : k < 32) (hN : ∀ i, sN s i < 256) (h : ∀ i, i < 6 → mi M (ad (S + 2)) i = nI (sN s i)) : f_X5_knowers E M (ad S) (nI k) = some (nI (setOf 6 (fun i => (sN s i).testBit k))) := by
  unfold f_X5_knowers
  obtain ⟨n, e⟩ := loop_FU (fun n (a : Int32) v => f_X5_knowers_L4 E M n (ad S) (nI k) a v) (fun j => nI (setOf j (fun i => (sN s i).testBit k))) 6 (by decide) (by
    intro n j hj
    show b_X5_knowers_L4 E M (f_X5_knowers_L4 E M n) (ad S) (nI k) _ (nI j) = _
    unfold b_X5_knowers_L4
    rw [if_neg (lt6 hj), isKnown_eq hS hj hk (hN j) (h j hj), Option.bind_some, nI_1]
    show _ = f_X5_knowers_L4 E M n (ad S) (nI k) (nI (setOf j _ ||| _)) _
    cases hb : (sN s j).testBit k
    · rw [if_pos (by decide)]
      simp [hb]
    · rw [if_neg (by decide)]
      dsimp only [nm]
      rw [shl1 (by omega), nI_or]
      simp [hb])
  refine e.trans ?_
  show b_X5_knowers_L4 E M (f_X5_knowers_L4 E M n) (ad S) (nI k) _ (nI 6) = _
  unfold b_X5_knowers_L4
  rw [if_pos (by decide)]
theorem toldOn_eq (hS : SN E ad S) {v : Nat} (hv : v < 256) (hC : sC s < 128) (h6 : ∀ k, k < 8 → sS s k < 6) (h : ∀ k, k < 8 → mi M (ad (S + 1)) k = nI (sS s k)) (hc : mi M (ad S) 3 = nI (sC s)) : f_X5_toldOn E M (ad S) (nI v) = some (nI (told s v)) := by
  unfold f_X5_toldOn
  obtain ⟨n, e⟩ := loop_FU (fun n (a : Int32) w => f_X5_toldOn_L4 E M n (ad S) (nI v) a w) (fun j => nI (setOf (j + 1) (fun b => v.testBit (b - 1) && openC s b))) 7 (by decide) (by
    intro n j hj
    show b_X5_toldOn_L4 E M (f_X5_toldOn_L4 E M n) (ad S) (nI v) _ (nI j) = _
    unfold b_X5_toldOn_L4
    have hT : (v &&& sC s &&& 2 ^ j = 0) = ((v.testBit j && (sC s).testBit j) = false) := by
      rw [← Nat.testBit_and]
      exact and2 _ _
    have hlt : v &&& sC s &&& 2 ^ j < 2 ^ 31 := Nat.lt_of_lt_of_le (and_lt (n := 8) (and_lt (n := 8) hv)) (by decide)
    dsimp only [nm]
    rw [if_neg (lt7 hj), nI_1, gd_nI (by omega) (by decide), ix_nI (by omega), hS.1, h (j + 1) (by omega), hc, nI_and, shl1 (by omega), shl1 (by omega), nI_and]
    have e4 : (nI (sS s (j + 1)) = (4 : Int32)) = (sS s (j + 1) = 4) := nIe (b := 4) (by have := h6 (j + 1) (by omega); omega) (by decide)
    have e0 : (nI (sS s (j + 1)) = 0) = (sS s (j + 1) = 0) := nIe0 (by have := h6 (j + 1) (by omega); omega)
    simp only [nIe0 hlt, hT, e0, e4]
    show _ = f_X5_toldOn_L4 E M n (ad S) (nI v) (nI (setOf (j + 1) _ ||| (if (v.testBit (j + 1 - 1) && openC s (j + 1)) = true then 2 ^ (j + 1) else 0))) _
    unfold openC
    rw [show j + 1 - 1 = j by omega, decide_eq_true (show 0 < j + 1 by omega)]
    cases hb : v.testBit j <;> cases hd : (sC s).testBit j <;> by_cases h0 : sS s (j + 1) = 0 <;> by_cases h4 : sS s (j + 1) = 4 <;> simp [h0, h4, nI_or])
  have h0 : setOf (0 + 1) (fun b => v.testBit (b - 1) && openC s b) = 0 := by simp [setOf, openC]
  rw [h0] at e
  refine e.trans ?_
  show b_X5_toldOn_L4 E M (f_X5_toldOn_L4 E M n) (ad S) (nI v) _ (nI 7) = _
  unfold b_X5_toldOn_L4
  rw [if_pos (by decide), nI_or]
  rfl
theorem passMinute_eq (hI : ∀ n n', ad n = ad n' → n = n') (hS : SN E ad S) (hC : sC s < 128) (h6 : ∀ k, k < 8 → sS s k < 6) (hN : ∀ i, sN s i < 256) (h : CS ad M S s) : f_X5_passMinute E M (ad S) = some (wi (upR M (ad (S + 2)) 0 6 (fun i => nI (told s (sN s i)))) (ad S) 4 (nI (sT s + 1))) := by
  obtain ⟨h1, h2, h3, h4, h5⟩ := h
  unfold f_X5_passMinute
  have ne : ∀ a b, a ≠ b → ad a ≠ ad b := fun a b h e => h (hI a b e)
  obtain ⟨n, e⟩ := loop_FU (fun n (a : Mem) w => f_X5_passMinute_L2 E n a (ad S) w) (fun j => upR M (ad (S + 2)) 0 j (fun i => nI (told s (sN s i)))) 6 (by decide) (by
    intro n j hj
    show b_X5_passMinute_L2 E (f_X5_passMinute_L2 E n) _ (ad S) (nI j) = _
    unfold b_X5_passMinute_L2
    rw [if_neg (lt6 hj), gd_nI hj (by decide), ix_nI (by omega), hS.2.1, mi_upR, if_neg (by omega), h2 j hj, toldOn_eq (s := s) hS (hN j) hC h6 (fun k hk => by rw [mi_upR, if_neg (fun z => ne _ _ (by omega) z.1)]; exact h1 k hk) (by rw [mi_upR, if_neg (fun z => ne _ _ (by omega) z.1)]; exact h4), Option.bind_some, nI_1, upR_s _ _ _ _ _ _ (by omega) _ rfl])
  rw [upR_0] at e
  refine e.trans ?_
  show b_X5_passMinute_L2 E (f_X5_passMinute_L2 E n) _ (ad S) (nI 6) = _
  unfold b_X5_passMinute_L2
  rw [if_pos (by decide), mi_upR, if_neg (fun z => ne _ _ (by omega) z.1), h5, nI_1]
end Stand32
