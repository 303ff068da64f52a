/-! what can be met in so many minutes -/
section Al52
def can (g : Nat → Nat → Bool) : Nat → Nat → Nat → Prop
  | 0, _, R => R = 0
  | k + 1, a, R => can g k (a + 1) R ∨ ∃ s, s < 8 ∧ R.testBit s = true ∧ g a s = true ∧ can g k (a + 1) (wo R (2 ^ s))
variable {g : Nat → Nat → Bool}
theorem can_0 : ∀ k a, can g k a 0 := by
  intro k
  induction k with
  | zero => intro a; rfl
  | succ k ih => intro a; exact Or.inl (ih _)
theorem tb_w1 (R s t : Nat) : (wo R (2 ^ s)).testBit t = (R.testBit t && !decide (s = t)) := by rw [tb_wo, Nat.testBit_two_pow]
theorem tb_w1i {R s t : Nat} : (wo R (2 ^ s)).testBit t = true ↔ R.testBit t = true ∧ s ≠ t := by
  rw [tb_w1]
  by_cases e : s = t <;> cases R.testBit t <;> simp [e]
theorem wo_cm (R a b : Nat) : wo (wo R a) b = wo (wo R b) a := eq_tb fun i => by
  rw [tb_wo, tb_wo, tb_wo, tb_wo]
  cases R.testBit i <;> cases a.testBit i <;> cases b.testBit i <;> rfl
/-- from behind -/
theorem can_back : ∀ k a R, can g (k + 1) a R ↔ can g k a R ∨ ∃ s, s < 8 ∧ R.testBit s = true ∧ g (a + k) s = true ∧ can g k a (wo R (2 ^ s)) := by
  intro k
  induction k with
  | zero => intro a R; exact Iff.rfl
  | succ k ih =>
    intro a R
    have ea : a + 1 + k = a + (k + 1) := by omega
    constructor
    · intro h
      rcases h with h | ⟨s, hs, hR, hg, h⟩
      · rcases (ih (a + 1) R).mp h with h | ⟨t, ht, hRt, hgt, h⟩
        · exact Or.inl (Or.inl h)
        · rw [ea] at hgt
          exact Or.inr ⟨t, ht, hRt, hgt, Or.inl h⟩
      · rcases (ih (a + 1) _).mp h with h | ⟨t, ht, hRt, hgt, h⟩
        · exact Or.inl (Or.inr ⟨s, hs, hR, hg, h⟩)
        · rw [ea] at hgt
          obtain ⟨q1, q2⟩ := tb_w1i.mp hRt
          exact Or.inr ⟨t, ht, q1, hgt, Or.inr ⟨s, hs, tb_w1i.mpr ⟨hR, fun z => q2 z.symm⟩, hg, by rw [wo_cm]; exact h⟩⟩
    · intro h
      rcases h with (h | ⟨s, hs, hR, hg, h⟩) | ⟨t, ht, hRt, hgt, h⟩
      · exact Or.inl ((ih (a + 1) R).mpr (Or.inl h))
      · exact Or.inr ⟨s, hs, hR, hg, (ih (a + 1) _).mpr (Or.inl h)⟩
      · rw [← ea] at hgt
        rcases h with h | ⟨s, hs, hR, hg, h⟩
        · exact Or.inl ((ih (a + 1) R).mpr (Or.inr ⟨t, ht, hRt, hgt, h⟩))
        · obtain ⟨q1, q2⟩ := tb_w1i.mp hR
          exact Or.inr ⟨s, hs, q1, hg, (ih (a + 1) _).mpr (Or.inr ⟨t, ht, tb_w1i.mpr ⟨hRt, fun z => q2 z.symm⟩, hgt, by rw [wo_cm]; exact h⟩)⟩
theorem can_pre {R : Nat} (h0 : R ≠ 0) : ∀ d, can g d 0 R ↔ ∃ t s, t < d ∧ s < 8 ∧ R.testBit s = true ∧ g t s = true ∧ can g t 0 (wo R (2 ^ s)) := by
  intro d
  induction d with
  | zero =>
    constructor
    · intro h; exact absurd h h0
    · intro ⟨t, s, h, _⟩; omega
  | succ d ih =>
    rw [can_back, ih, Nat.zero_add]
    constructor
    · intro h
      rcases h with ⟨t, s, h1, h2⟩ | ⟨s, h2⟩
      · exact ⟨t, s, by omega, h2⟩
      · exact ⟨d, s, by omega, h2⟩
    · intro ⟨t, s, h1, h2⟩
      by_cases e : t = d
      · subst e; exact Or.inr ⟨s, h2⟩
      · exact Or.inl ⟨t, s, by omega, h2⟩
theorem can_suf {R : Nat} (h0 : R ≠ 0) : ∀ k a, can g k a R ↔ ∃ t s, a ≤ t ∧ t < a + k ∧ s < 8 ∧ R.testBit s = true ∧ g t s = true ∧ can g (a + k - t - 1) (t + 1) (wo R (2 ^ s)) := by
  intro k
  induction k with
  | zero =>
    intro a
    constructor
    · intro h; exact absurd h h0
    · intro ⟨t, s, h1, h2, _⟩; omega
  | succ k ih =>
    intro a
    constructor
    · intro h
      rcases h with h | ⟨s, hs, hR, hg, h⟩
      · obtain ⟨t, s, h1, h2, h3, h4, h5, h6⟩ := (ih (a + 1)).mp h
        rw [show a + 1 + k - t - 1 = a + (k + 1) - t - 1 by omega] at h6
        exact ⟨t, s, by omega, by omega, h3, h4, h5, h6⟩
      · refine ⟨a, s, by omega, by omega, hs, hR, hg, ?_⟩
        rw [show a + (k + 1) - a - 1 = k by omega]
        exact h
    · intro ⟨t, s, h1, h2, h3, h4, h5, h6⟩
      by_cases e : t = a
      · subst e
        rw [show t + (k + 1) - t - 1 = k by omega] at h6
        exact Or.inr ⟨s, h3, h4, h5, h6⟩
      · refine Or.inl ((ih (a + 1)).mpr ⟨t, s, by omega, by omega, h3, h4, h5, ?_⟩)
        rw [show a + 1 + k - t - 1 = a + (k + 1) - t - 1 by omega]
        exact h6
theorem can_up {k a R : Nat} (h : can g k a R) : can g (k + 1) a R := (can_back k a R).mpr (Or.inl h)
/-- what matters of the minutes' sets -/
theorem can_g {g' : Nat → Nat → Bool} : ∀ k a R, (∀ t s, R.testBit s = true → g t s = g' t s) → (can g k a R ↔ can g' k a R) := by
  intro k
  induction k with
  | zero => intro a R _; exact Iff.rfl
  | succ k ih =>
    intro a R h
    have h2 : ∀ s, ∀ t u, (wo R (2 ^ s)).testBit u = true → g t u = g' t u := fun s t u hu => h t u (tb_w1i.mp hu).1
    constructor
    · intro q
      rcases q with q | ⟨s, hs, hR, hg, q⟩
      · exact Or.inl ((ih _ _ h).mp q)
      · exact Or.inr ⟨s, hs, hR, by rw [← h _ _ hR]; exact hg, (ih _ _ (h2 s)).mp q⟩
    · intro q
      rcases q with q | ⟨s, hs, hR, hg, q⟩
      · exact Or.inl ((ih _ _ h).mpr q)
      · exact Or.inr ⟨s, hs, hR, by rw [h _ _ hR]; exact hg, (ih _ _ (h2 s)).mpr q⟩
/-! bits of longs -/
def lb (x : Int64) (b : Nat) : Bool := x.toBitVec.getLsbD b
theorem sm63 : ∀ b, b < 64 → (((lN b) &&& 63).toBitVec.smod 64).toNat = b := by decide +kernel
theorem bv1 (y : BitVec 64) : (y &&& 1#64 = 1#64) = (y.getLsbD 0 = true) := propext ⟨fun h => by
    have := congrArg (fun z => z.getLsbD 0) h
    simpa using this, fun h => by
    apply BitVec.eq_of_getLsbD_eq
    intro i hi
    rw [BitVec.getLsbD_and, BitVec.getLsbD_one]
    by_cases e : i = 0
    · subst e; simp [h]
    · simp [e]⟩
theorem lb_shr (x : Int64) {b : Nat} (hb : b < 64) : ((x >>> (lN b &&& 63)) &&& (1 : Int64) = 1) = (lb x b = true) := by
  have e1 : ((x >>> (lN b &&& 63)) &&& (1 : Int64) = 1) = ((x.toBitVec.sshiftRight b) &&& 1#64 = 1#64) := by
    rw [← Int64.toBitVec_inj]
    show ((x.toBitVec.sshiftRight (((lN b) &&& 63).toBitVec.smod 64).toNat) &&& 1#64 = 1#64) = _
    rw [sm63 b hb]
  rw [e1, bv1, BitVec.getLsbD_sshiftRight]
  unfold lb
  simp [hb]
theorem lb_or1 (x : Int64) {a b : Nat} (ha : a < 64) (hb : b < 64) : lb (x ||| ((1 : Int64) <<< (lN a &&& 63))) b = (lb x b || decide (a = b)) := by
  unfold lb
  show (x.toBitVec ||| (1#64 <<< (((lN a) &&& 63).toBitVec.smod 64).toNat)).getLsbD b = _
  rw [sm63 a ha, BitVec.getLsbD_or, BitVec.getLsbD_shiftLeft, BitVec.getLsbD_one]
  congr 1
  by_cases e : a = b
  · subst e; simp [hb]
  · by_cases l : b < a
    · simp [l, e]
    · have : ¬ b - a = 0 := by omega
      simp [this, e]
theorem lb_or0 (x : Int64) (b : Nat) : lb (x ||| (0 : Int64)) b = lb x b := by
  unfold lb
  show (x.toBitVec ||| 0#64).getLsbD b = _
  rw [BitVec.or_zero]
theorem lb_1 (b : Nat) : lb 1 b = decide (b = 0) := by
  unfold lb
  show (1#64).getLsbD b = _
  rw [BitVec.getLsbD_one]
  simp
theorem lb_0 (b : Nat) : lb 0 b = false := by
  unfold lb
  show (0#64).getLsbD b = _
  exact BitVec.getLsbD_zero
variable {E : Env1} {ad : Nat → Nat} {M M1 M2 : Mem} {h : Ho}
def tb (ad : Nat → Nat) (M : Mem) (d R : Nat) : Bool := lb (ml M (ad 23) (4 * d + R / 64)) (R % 64)
theorem isMay_eq (hN : Nm E (ad 50) (ad 0) ad) {d R : Nat} (hd : d ≤ 40) (hR : R < 256) : f_X9_isMay E M (ad 0) (nI d) (nI R) = some (if tb ad M d R then 1 else 0) := by
  unfold f_X9_isMay
  have q1 : nI R / (64 : Int32) = nI (R / 64) := pk_div (d := 64) (by omega) (by decide) (by decide)
  have q2 : nI R - nI R / (64 : Int32) * (64 : Int32) = nI (R % 64) := pk_rem (d := 64) (by omega) (by decide) (by decide)
  have e1 : ∀ y : Int64, (lg_cmp y (1 : Int64) = 0) = (y = 1) := fun y => propext (lg_cmp_eq _ _)
  have h4 : R / 64 < 4 := by omega
  have hm : R % 64 < 64 := Nat.mod_lt _ (by decide)
  rw [q2, q1, n4, nI_add, gd_nI (by omega) (by decide), ix_nI (by omega), n_23 hN, nI_l (by omega)]
  simp only [e1, lb_shr _ hm]
  rfl
end Al52
