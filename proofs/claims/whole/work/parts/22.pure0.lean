/-! plain facts for the transcripts: places, guards, loops; the two resets -/
section Pure0
theorem ix_nI {j : Nat} (h : j < 2 ^ 31) : ix (nI j) = j := nI_clamp h
theorem gd_nI {α : Type} {j n : Nat} {x : Option α} (h : j < n) (hn : n < 2 ^ 31) : gd (nI j) n x = x := gd_pos (vp_in_nI h hn)
theorem reset_L23 (E : Env1) (s : Nat) : ∀ (n j : Nat) (M : Mem), j ≤ 6 → 6 - j < n → ∃ M1, f_X5_reset_L23 E n M s (nI j) = some M1 ∧ (∀ q k, mi M1 q k = if q = s ∧ (k = 3 ∨ k = 4) then 0 else if q = rr E s 2 ∧ j ≤ k ∧ k < 6 then -1 else if q = rr E s 1 ∧ j ≤ k ∧ k < 6 then 0 else mi M q k) ∧ M1.2 = M.2 := by
  intro n
  induction n with
  | zero => intro j M hj hn; omega
  | succ n ih =>
    intro j M hj hn
    show ∃ M1, b_X5_reset_L23 E (f_X5_reset_L23 E n) M s (nI j) = some M1 ∧ _
    unfold b_X5_reset_L23
    by_cases h : j = 6
    · subst h
      rw [if_pos (by decide)]
      refine ⟨_, rfl, fun q k => ?_, rfl⟩
      rw [mi_wi, mi_wi]
      (repeat' split) <;> first | rfl | omega
    · rw [if_neg (show ¬ (6 : Int32) ≤ nI j from nI_ge (a := j) (b := 6) (by omega) (by decide)), gd_nI (by omega) (by decide), ix_nI (by omega), nI_1]
      obtain ⟨M1, h1, h2, h3⟩ := ih (j + 1) (wi (wi M (rr E s 1) j 0) (rr E s 2) j (-1)) (by omega) (by omega)
      refine ⟨M1, h1, fun q k => ?_, h3⟩
      rw [h2, mi_wi, mi_wi]
      (repeat' split) <;> first | rfl | omega
theorem reset_L2 (E : Env1) (s : Nat) : ∀ (n j : Nat) (M : Mem), j ≤ 8 → 8 - j < n → ∃ M1, f_X5_reset_L2 E n M s (nI j) = f_X5_reset_L23 E FU M1 s 0 ∧ (∀ q k, mi M1 q k = if q = rr E s 0 ∧ j ≤ k ∧ k < 8 then 0 else mi M q k) ∧ M1.2 = M.2 := by
  intro n
  induction n with
  | zero => intro j M hj hn; omega
  | succ n ih =>
    intro j M hj hn
    show ∃ M1, b_X5_reset_L2 E (f_X5_reset_L2 E n) M s (nI j) = f_X5_reset_L23 E FU M1 s 0 ∧ _
    unfold b_X5_reset_L2
    by_cases h : j = 8
    · subst h
      rw [if_pos (by decide)]
      exact ⟨M, rfl, fun q k => by rw [if_neg (by omega)], rfl⟩
    · rw [if_neg (show ¬ (8 : Int32) ≤ nI j from nI_ge (a := j) (b := 8) (by omega) (by decide)), gd_nI (by omega) (by decide), ix_nI (by omega), nI_1]
      obtain ⟨M1, h1, h2, h3⟩ := ih (j + 1) (wi M (rr E s 0) j 0) (by omega) (by omega)
      refine ⟨M1, h1, fun q k => ?_, h3⟩
      rw [h2, mi_wi]
      (repeat' split) <;> first | rfl | omega
/-- Stand.reset() -/
theorem reset_spec (E : Env1) (M : Mem) (s : Nat) : ∃ M1, f_X5_reset E M s = some M1 ∧ (∀ q k, mi M1 q k = if q = s ∧ (k = 3 ∨ k = 4) then 0 else if q = rr E s 2 ∧ k < 6 then -1 else if q = rr E s 1 ∧ k < 6 then 0 else if q = rr E s 0 ∧ k < 8 then 0 else mi M q k) ∧ M1.2 = M.2 := by
  unfold f_X5_reset
  obtain ⟨M1, h1, h2, h3⟩ := reset_L2 E s FU 0 M (by decide) (by decide)
  obtain ⟨M2, g1, g2, g3⟩ := reset_L23 E s FU 0 M1 (by decide) (by decide)
  refine ⟨M2, (show f_X5_reset_L2 E FU M s 0 = _ from h1).trans g1, fun q k => ?_, g3.trans h3⟩
  rw [g2, h2]
  (repeat' split) <;> first | rfl | omega
theorem begin_L37 (E : Env1) (m : Nat) : ∀ (n j : Nat) (M : Mem), j ≤ 8 → 8 - j < n → ∃ M1, f_X9_begin_L37 E n M m (nI j) = some M1 ∧ (∀ q k, mi M1 q k = if q = rr E m 11 ∧ j ≤ k ∧ k < 8 then 0 else mi M q k) ∧ M1.2 = M.2 := by
  intro n
  induction n with
  | zero => intro j M hj hn; omega
  | succ n ih =>
    intro j M hj hn
    show ∃ M1, b_X9_begin_L37 E (f_X9_begin_L37 E n) M m (nI j) = some M1 ∧ _
    unfold b_X9_begin_L37
    by_cases h : j = 8
    · subst h
      rw [if_pos (by decide)]
      exact ⟨M, rfl, fun q k => by rw [if_neg (by omega)], rfl⟩
    · rw [if_neg (show ¬ (8 : Int32) ≤ nI j from nI_ge (a := j) (b := 8) (by omega) (by decide)), gd_nI (by omega) (by decide), ix_nI (by omega), nI_1]
      obtain ⟨M1, h1, h2, h3⟩ := ih (j + 1) (wi M (rr E m 11) j 0) (by omega) (by omega)
      refine ⟨M1, h1, fun q k => ?_, h3⟩
      rw [h2, mi_wi]
      (repeat' split) <;> first | rfl | omega
/-- the reference's begin() -/
theorem begin_spec (E : Env1) (M : Mem) (m : Nat) : ∃ M1, f_X9_begin E M m = some M1 ∧ (∀ q k, mi M1 q k = if q = rr E m 11 ∧ k < 8 then 0 else if q = m ∧ (k = 1 ∨ k = 2 ∨ k = 3 ∨ k = 4 ∨ k = 5 ∨ k = 6 ∨ k = 21) then 0 else mi M q k) ∧ M1.2 = M.2 := by
  unfold f_X9_begin nm
  obtain ⟨M1, h1, h2, h3⟩ := begin_L37 E m FU 0 (wi (wi (wi (wi (wi (wi (wi M m 1 0) m 2 0) m 3 0) m 4 0) m 5 0) m 6 0) m 21 0) (by decide) (by decide)
  refine ⟨M1, h1, fun q k => ?_, h3⟩
  rw [h2]
  simp only [mi_wi]
  (repeat' split) <;> first | rfl | omega
end Pure0
