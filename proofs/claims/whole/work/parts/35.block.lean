/-! the reference's cells as one row of 281; laying and taking -/
section Block35
def lv (ad : Nat → Nat) (M : Mem) (k : Nat) : Int32 := if k = 0 then mi M (ad 0) 2 else if k = 1 then mi M (ad 0) 3 else if k < 8 then mi M (ad 10) (k - 2) else if k < 14 then mi M (ad 9) (k - 8) else if k < 22 then mi M (ad 11) (k - 14) else if k = 22 then mi M (ad 0) 1 else if k = 23 then mi M (ad 0) 4 else if k = 24 then mi M (ad 0) 5 else if k = 25 then mi M (ad 0) 6 else if k = 26 then mi M (ad 0) 21 else if k < 33 then mi M (ad 7) (k - 27) else if k < 39 then mi M (ad 8) (k - 33) else if k < 57 then mi M (ad 12) (k - 39) else if k < 81 then mi M (ad 13) (k - 57) else if k < 105 then mi M (ad 14) (k - 81) else mi M (ad 20) (k - 105)
variable {E : Env1} {x m : Nat} {ad : Nat → Nat} {M M1 : Mem}
theorem lv_kn {i : Nat} (h : i < 6) : lv ad M (2 + i) = mi M (ad 10) i := by
  unfold lv
  rw [if_neg (by omega), if_neg (by omega), if_pos (by omega), Nat.add_sub_cancel_left]
theorem lv_pl {i : Nat} (h : i < 6) : lv ad M (8 + i) = mi M (ad 9) i := by
  unfold lv
  rw [if_neg (by omega), if_neg (by omega), if_neg (by omega), if_pos (by omega), Nat.add_sub_cancel_left]
theorem lv_st {i : Nat} (h : i < 8) : lv ad M (14 + i) = mi M (ad 11) i := by
  unfold lv
  rw [if_neg (by omega), if_neg (by omega), if_neg (by omega), if_neg (by omega), if_pos (by omega), Nat.add_sub_cancel_left]
theorem lv_kd {i : Nat} (h : i < 6) : lv ad M (27 + i) = mi M (ad 7) i := by
  unfold lv
  rw [if_neg (by omega), if_neg (by omega), if_neg (by omega), if_neg (by omega), if_neg (by omega), if_neg (by omega), if_neg (by omega), if_neg (by omega), if_neg (by omega), if_neg (by omega), if_pos (by omega), Nat.add_sub_cancel_left]
theorem lv_wt {i : Nat} (h : i < 6) : lv ad M (33 + i) = mi M (ad 8) i := by
  unfold lv
  rw [if_neg (by omega), if_neg (by omega), if_neg (by omega), if_neg (by omega), if_neg (by omega), if_neg (by omega), if_neg (by omega), if_neg (by omega), if_neg (by omega), if_neg (by omega), if_neg (by omega), if_pos (by omega), Nat.add_sub_cancel_left]
theorem lv_so {i : Nat} (h : i < 18) : lv ad M (39 + i) = mi M (ad 12) i := by
  unfold lv
  rw [if_neg (by omega), if_neg (by omega), if_neg (by omega), if_neg (by omega), if_neg (by omega), if_neg (by omega), if_neg (by omega), if_neg (by omega), if_neg (by omega), if_neg (by omega), if_neg (by omega), if_neg (by omega), if_pos (by omega), Nat.add_sub_cancel_left]
theorem lv_no {i : Nat} (h : i < 24) : lv ad M (57 + i) = mi M (ad 13) i := by
  unfold lv
  rw [if_neg (by omega), if_neg (by omega), if_neg (by omega), if_neg (by omega), if_neg (by omega), if_neg (by omega), if_neg (by omega), if_neg (by omega), if_neg (by omega), if_neg (by omega), if_neg (by omega), if_neg (by omega), if_neg (by omega), if_pos (by omega), Nat.add_sub_cancel_left]
theorem lv_ma {i : Nat} (h : i < 24) : lv ad M (81 + i) = mi M (ad 14) i := by
  unfold lv
  rw [if_neg (by omega), if_neg (by omega), if_neg (by omega), if_neg (by omega), if_neg (by omega), if_neg (by omega), if_neg (by omega), if_neg (by omega), if_neg (by omega), if_neg (by omega), if_neg (by omega), if_neg (by omega), if_neg (by omega), if_neg (by omega), if_pos (by omega), Nat.add_sub_cancel_left]
theorem lv_ah (i : Nat) : lv ad M (105 + i) = mi M (ad 20) i := by
  unfold lv
  rw [if_neg (by omega), if_neg (by omega), if_neg (by omega), if_neg (by omega), if_neg (by omega), if_neg (by omega), if_neg (by omega), if_neg (by omega), if_neg (by omega), if_neg (by omega), if_neg (by omega), if_neg (by omega), if_neg (by omega), if_neg (by omega), if_neg (by omega), Nat.add_sub_cancel_left]
/-- the row by pieces -/
theorem lv_cases {P : Nat → Int32 → Prop} (a0 : P 0 (mi M (ad 0) 2)) (a1 : P 1 (mi M (ad 0) 3)) (a2 : ∀ i, i < 6 → P (2 + i) (mi M (ad 10) i)) (a3 : ∀ i, i < 6 → P (8 + i) (mi M (ad 9) i)) (a4 : ∀ i, i < 8 → P (14 + i) (mi M (ad 11) i)) (a5 : P 22 (mi M (ad 0) 1)) (a6 : P 23 (mi M (ad 0) 4)) (a7 : P 24 (mi M (ad 0) 5)) (a8 : P 25 (mi M (ad 0) 6)) (a9 : P 26 (mi M (ad 0) 21)) (b1 : ∀ i, i < 6 → P (27 + i) (mi M (ad 7) i)) (b2 : ∀ i, i < 6 → P (33 + i) (mi M (ad 8) i)) (b3 : ∀ i, i < 18 → P (39 + i) (mi M (ad 12) i)) (b4 : ∀ i, i < 24 → P (57 + i) (mi M (ad 13) i)) (b5 : ∀ i, i < 24 → P (81 + i) (mi M (ad 14) i)) (b6 : ∀ i, i < 176 → P (105 + i) (mi M (ad 20) i)) : ∀ k, k < 281 → P k (lv ad M k) := by
  intro k hk
  by_cases e0 : k = 0
  · subst e0; exact a0
  by_cases e1 : k = 1
  · subst e1; exact a1
  by_cases g2 : k < 8
  · obtain ⟨i, rfl⟩ : ∃ i, k = 2 + i := ⟨k - 2, by omega⟩
    rw [lv_kn (by omega)]
    exact a2 i (by omega)
  by_cases g8 : k < 14
  · obtain ⟨i, rfl⟩ : ∃ i, k = 8 + i := ⟨k - 8, by omega⟩
    rw [lv_pl (by omega)]
    exact a3 i (by omega)
  by_cases g14 : k < 22
  · obtain ⟨i, rfl⟩ : ∃ i, k = 14 + i := ⟨k - 14, by omega⟩
    rw [lv_st (by omega)]
    exact a4 i (by omega)
  by_cases e22 : k = 22
  · subst e22; exact a5
  by_cases e23 : k = 23
  · subst e23; exact a6
  by_cases e24 : k = 24
  · subst e24; exact a7
  by_cases e25 : k = 25
  · subst e25; exact a8
  by_cases e26 : k = 26
  · subst e26; exact a9
  by_cases g27 : k < 33
  · obtain ⟨i, rfl⟩ : ∃ i, k = 27 + i := ⟨k - 27, by omega⟩
    rw [lv_kd (by omega)]
    exact b1 i (by omega)
  by_cases g33 : k < 39
  · obtain ⟨i, rfl⟩ : ∃ i, k = 33 + i := ⟨k - 33, by omega⟩
    rw [lv_wt (by omega)]
    exact b2 i (by omega)
  by_cases g39 : k < 57
  · obtain ⟨i, rfl⟩ : ∃ i, k = 39 + i := ⟨k - 39, by omega⟩
    rw [lv_so (by omega)]
    exact b3 i (by omega)
  by_cases g57 : k < 81
  · obtain ⟨i, rfl⟩ : ∃ i, k = 57 + i := ⟨k - 57, by omega⟩
    rw [lv_no (by omega)]
    exact b4 i (by omega)
  by_cases g81 : k < 105
  · obtain ⟨i, rfl⟩ : ∃ i, k = 81 + i := ⟨k - 81, by omega⟩
    rw [lv_ma (by omega)]
    exact b5 i (by omega)
  obtain ⟨i, rfl⟩ : ∃ i, k = 105 + i := ⟨k - 105, by omega⟩
  rw [lv_ah]
  exact b6 i (by omega)
/-- pieces of a row join -/
theorem upR_join (M : Mem) (a lo n k : Nat) (v : Nat → Int32) (w : Nat → Int32) (hw : ∀ i, i < k → w i = v (n + i)) (lo' : Nat) (hl : lo' = lo + n) : upR (upR M a lo n v) a lo' k w = upR M a lo (n + k) v := by
  subst hl
  refine mem_ext (fun q j => ?_) (fun _ _ => rfl) (fun _ _ => rfl)
  rw [mi_upR, mi_upR, mi_upR]
  by_cases h1 : q = a ∧ lo + n ≤ j ∧ j < lo + n + k
  · rw [if_pos h1, if_pos ⟨h1.1, by omega, by omega⟩, hw _ (by omega), show n + (j - (lo + n)) = j - lo by omega]
  · rw [if_neg h1]
    by_cases h2 : q = a ∧ lo ≤ j ∧ j < lo + n
    · rw [if_pos h2, if_pos ⟨h2.1, by omega, by omega⟩]
    · rw [if_neg h2, if_neg (by omega)]
theorem upR_congr (M : Mem) (a lo n : Nat) (v w : Nat → Int32) (h : ∀ i, i < n → v i = w i) : upR M a lo n v = upR M a lo n w := by
  refine mem_ext (fun q j => ?_) (fun _ _ => rfl) (fun _ _ => rfl)
  rw [mi_upR, mi_upR]
  split
  · exact h _ (by omega)
  · rfl
theorem gd_a {α : Type} {o k n1 j : Nat} {c : Int32} {y : Option α} (hc : c = nI k) (h : o + k + j < n1) (hn : n1 < 2 ^ 31) : gd (nI o + c + nI j) n1 y = y := by rw [hc, nI_add, nI_add]; exact gd_nI h hn
theorem gd_b {α : Type} {o k n1 : Nat} {c : Int32} {y : Option α} (hc : c = nI k) (h : o + k < n1) (hn : n1 < 2 ^ 31) : gd (nI o + c) n1 y = y := by rw [hc, nI_add]; exact gd_nI h hn
theorem ix_a {o k j : Nat} {c : Int32} (hc : c = nI k) (h : o + k + j < 2 ^ 31) : ix (nI o + c + nI j) = o + k + j := by rw [hc, nI_add, nI_add]; exact ix_nI h
theorem ix_b {o k : Nat} {c : Int32} (hc : c = nI k) (h : o + k < 2 ^ 31) : ix (nI o + c) = o + k := by rw [hc, nI_add]; exact ix_nI h
theorem lays_eq (hN : Nm E x m ad) {T o n1 : Nat} (hT : T = 19 ∨ T = 20 ∨ T = 22 ∨ T = 27) (ho : o + 22 ≤ n1) (hn : n1 ≤ 600) (M : Mem) : f_X9_lays E n1 M m (ad T) (nI o) = some (upR M (ad T) o 22 (lv ad M)) := by
  have ne : ∀ a, a < 15 → ad a ≠ ad T := fun a ha e => by have := hN.2.2.1 _ _ e; omega
  have q9 := n_9 hN
  have q10 := n_10 hN
  have q11 := n_11 hN
  have e0 := hN.1
  unfold f_X9_lays
  dsimp only [nm]
  rw [gd_nI (by omega) (by omega), gd_b (k := 1) (c := 1) rfl (by omega) (by omega), ix_nI (by omega), ix_b (k := 1) (c := 1) rfl (by omega), mi_wi, if_neg (fun z => ne 0 (by omega) (e0.trans z.1)), ← e0]
  have eA : wi (wi M (ad T) o (mi M (ad 0) 2)) (ad T) (o + 1) (mi M (ad 0) 3) = upR M (ad T) o 2 (lv ad M) := by
    have h1 := upR_s M (ad T) o 0 (lv ad M) o (by omega) (mi M (ad 0) 2) rfl
    rw [upR_0] at h1
    rw [h1]
    exact upR_s M (ad T) o 1 (lv ad M) (o + 1) rfl (mi M (ad 0) 3) rfl
  rw [eA, e0]
  obtain ⟨n, e⟩ := loop_FU (fun n (a : Mem) w => f_X9_lays_L18 E n1 n a m (ad T) (nI o) w) (fun j => upR (upR (upR M (ad T) o 2 (lv ad M)) (ad T) (o + 2) j (fun i => lv ad M (2 + i))) (ad T) (o + 8) j (fun i => lv ad M (8 + i))) 6 (by decide) (by
    intro n j hj
    show b_X9_lays_L18 E n1 (f_X9_lays_L18 E n1 n) _ m (ad T) (nI o) (nI j) = _
    unfold b_X9_lays_L18
    dsimp only [nm]
    rw [if_neg (lt6 hj), gd_nI hj (by decide), gd_a (k := 2) (c := 2) rfl (by omega) (by omega), gd_a (k := 8) (c := 8) rfl (by omega) (by omega), ix_nI (by omega), ix_a (k := 2) (c := 2) rfl (by omega), ix_a (k := 8) (c := 8) rfl (by omega), q10, q9, nI_1]
    rw [upR_s2 _ (ad T) (o + 2) (ad T) (o + 8) j _ _ (fun i i' h1 h2 z => by omega) (o + 2 + j) (o + 8 + j) rfl rfl _ _ (by rw [mi_upR, if_neg (fun z => ne 10 (by omega) z.1), mi_upR, if_neg (fun z => ne 10 (by omega) z.1), mi_upR, if_neg (fun z => ne 10 (by omega) z.1)]; exact (lv_kn hj).symm) (by rw [mi_wi, if_neg (fun z => ne 9 (by omega) z.1), mi_upR, if_neg (fun z => ne 9 (by omega) z.1), mi_upR, if_neg (fun z => ne 9 (by omega) z.1), mi_upR, if_neg (fun z => ne 9 (by omega) z.1)]; exact (lv_pl hj).symm)])
  rw [upR_0, upR_0] at e
  refine e.trans ?_
  show b_X9_lays_L18 E n1 (f_X9_lays_L18 E n1 n) _ m (ad T) (nI o) (nI 6) = _
  unfold b_X9_lays_L18
  rw [if_pos (by decide), upR_join _ _ _ _ _ _ _ (fun _ _ => rfl) _ rfl, upR_join M (ad T) o 8 6 (lv ad M) _ (fun _ _ => rfl) _ rfl]
  obtain ⟨n', e'⟩ := loop_FU (fun n (a : Mem) w => f_X9_lays_L59 E n1 n a m (ad T) (nI o) w) (fun j => upR (upR M (ad T) o 14 (lv ad M)) (ad T) (o + 14) j (fun i => lv ad M (14 + i))) 8 (by decide) (by
    intro n j hj
    show b_X9_lays_L59 E n1 (f_X9_lays_L59 E n1 n) _ m (ad T) (nI o) (nI j) = _
    unfold b_X9_lays_L59
    rw [if_neg (lt8 hj), gd_nI hj (by decide), gd_a (k := 14) (c := 14) rfl (by omega) (by omega), ix_nI (by omega), ix_a (k := 14) (c := 14) rfl (by omega), q11, nI_1, mi_upR, if_neg (fun z => ne 11 (by omega) z.1), mi_upR, if_neg (fun z => ne 11 (by omega) z.1), upR_s _ _ _ _ (fun i => lv ad M (14 + i)) _ rfl _ (lv_st hj).symm])
  rw [upR_0] at e'
  refine e'.trans ?_
  show b_X9_lays_L59 E n1 (f_X9_lays_L59 E n1 n') _ m (ad T) (nI o) (nI 8) = _
  unfold b_X9_lays_L59
  rw [if_pos (by decide), upR_join M (ad T) o 14 8 (lv ad M) _ (fun _ _ => rfl) _ rfl]
/-- what taking makes -/
def tkM (ad : Nat → Nat) (M : Mem) (T o : Nat) : Mem := upR (upR (upR (wi (wi M (ad 0) 2 (mi M (ad T) o)) (ad 0) 3 (mi M (ad T) (o + 1))) (ad 10) 0 6 (fun i => mi M (ad T) (o + 2 + i))) (ad 9) 0 6 (fun i => mi M (ad T) (o + 8 + i))) (ad 11) 0 8 (fun i => mi M (ad T) (o + 14 + i))
theorem takes_eq (hN : Nm E x m ad) {T o n1 : Nat} (hT : T = 19 ∨ T = 20 ∨ T = 22 ∨ T = 27) (ho : o + 22 ≤ n1) (hn : n1 ≤ 600) (M : Mem) : f_X9_takes E n1 M m (ad T) (nI o) = some (tkM ad M T o) := by
  have ne : ∀ a, a < 15 → ad T ≠ ad a := fun a ha e => by have := hN.2.2.1 _ _ e; omega
  have n2 : ad 10 ≠ ad 9 := fun e => by have := hN.2.2.1 _ _ e; omega
  have q9 := n_9 hN
  have q10 := n_10 hN
  have q11 := n_11 hN
  have e0 := hN.1
  unfold f_X9_takes
  dsimp only [nm]
  rw [gd_nI (by omega) (by omega), gd_b (k := 1) (c := 1) rfl (by omega) (by omega), ix_nI (by omega), ix_b (k := 1) (c := 1) rfl (by omega), mi_wi, if_neg (fun z => ne 0 (by omega) (z.1.trans e0.symm))]
  obtain ⟨n, e⟩ := loop_FU (fun n (a : Mem) w => f_X9_takes_L18 E n1 n a m (ad T) (nI o) w) (fun j => upR (upR (wi (wi M (ad 0) 2 (mi M (ad T) o)) (ad 0) 3 (mi M (ad T) (o + 1))) (ad 10) 0 j (fun i => mi M (ad T) (o + 2 + i))) (ad 9) 0 j (fun i => mi M (ad T) (o + 8 + i))) 6 (by decide) (by
    intro n j hj
    show b_X9_takes_L18 E n1 (f_X9_takes_L18 E n1 n) _ m (ad T) (nI o) (nI j) = _
    unfold b_X9_takes_L18
    dsimp only [nm]
    rw [if_neg (lt6 hj), gd_nI hj (by decide), gd_a (k := 2) (c := 2) rfl (by omega) (by omega), gd_a (k := 8) (c := 8) rfl (by omega) (by omega), ix_nI (by omega), ix_a (k := 2) (c := 2) rfl (by omega), ix_a (k := 8) (c := 8) rfl (by omega), q10, q9, nI_1]
    rw [upR_s2 _ (ad 10) 0 (ad 9) 0 j _ _ (fun i i' h1 h2 z => n2 z.1) j j (by omega) (by omega) _ _ (by rw [mi_upR, if_neg (fun z => ne 9 (by omega) z.1), mi_upR, if_neg (fun z => ne 10 (by omega) z.1), mi_wi, if_neg (fun z => ne 0 (by omega) z.1), mi_wi, if_neg (fun z => ne 0 (by omega) z.1)]) (by rw [mi_wi, if_neg (fun z => ne 10 (by omega) z.1), mi_upR, if_neg (fun z => ne 9 (by omega) z.1), mi_upR, if_neg (fun z => ne 10 (by omega) z.1), mi_wi, if_neg (fun z => ne 0 (by omega) z.1), mi_wi, if_neg (fun z => ne 0 (by omega) z.1)])])
  rw [upR_0, upR_0, e0] at e
  refine e.trans ?_
  show b_X9_takes_L18 E n1 (f_X9_takes_L18 E n1 n) _ m (ad T) (nI o) (nI 6) = _
  unfold b_X9_takes_L18
  rw [if_pos (by decide), ← e0]
  obtain ⟨n', e'⟩ := loop_FU (fun n (a : Mem) w => f_X9_takes_L59 E n1 n a m (ad T) (nI o) w) (fun j => upR (upR (upR (wi (wi M (ad 0) 2 (mi M (ad T) o)) (ad 0) 3 (mi M (ad T) (o + 1))) (ad 10) 0 6 (fun i => mi M (ad T) (o + 2 + i))) (ad 9) 0 6 (fun i => mi M (ad T) (o + 8 + i))) (ad 11) 0 j (fun i => mi M (ad T) (o + 14 + i))) 8 (by decide) (by
    intro n j hj
    show b_X9_takes_L59 E n1 (f_X9_takes_L59 E n1 n) _ m (ad T) (nI o) (nI j) = _
    unfold b_X9_takes_L59
    rw [if_neg (lt8 hj), gd_nI hj (by decide), gd_a (k := 14) (c := 14) rfl (by omega) (by omega), ix_nI (by omega), ix_a (k := 14) (c := 14) rfl (by omega), q11, nI_1, upR_s _ _ _ _ _ _ (by omega) _ (by rw [mi_upR, if_neg (fun z => ne 11 (by omega) z.1), mi_upR, if_neg (fun z => ne 9 (by omega) z.1), mi_upR, if_neg (fun z => ne 10 (by omega) z.1), mi_wi, if_neg (fun z => ne 0 (by omega) z.1), mi_wi, if_neg (fun z => ne 0 (by omega) z.1)])])
  rw [upR_0] at e'
  rw [e0] at e' ⊢
  refine e'.trans ?_
  show b_X9_takes_L59 E n1 (f_X9_takes_L59 E n1 n') _ m (ad T) (nI o) (nI 8) = _
  unfold b_X9_takes_L59
  rw [if_pos (by decide)]
  unfold tkM
  rw [e0]
theorem layAll_eq (hN : Nm E x m ad) {T o n1 : Nat} (hT : T = 19 ∨ T = 27) (ho : o + 281 ≤ n1) (hn : n1 ≤ 600) (M : Mem) : f_X9_layAll E n1 M m (ad T) (nI o) = some (upR M (ad T) o 281 (lv ad M)) := by
  have ne : ∀ a, a < 15 ∨ a = 20 → ad a ≠ ad T := fun a ha e => by have := hN.2.2.1 _ _ e; omega
  have e0 := hN.1
  have ne0 : m ≠ ad T := by rw [← e0]; exact ne 0 (by omega)
  unfold f_X9_layAll
  rw [lays_eq hN (by omega) (by omega) hn, Option.bind_some]
  dsimp only [nm]
  rw [gd_b (k := 22) (c := 22) rfl (by omega) (by omega), gd_b (k := 23) (c := 23) rfl (by omega) (by omega), gd_b (k := 24) (c := 24) rfl (by omega) (by omega), gd_b (k := 25) (c := 25) rfl (by omega) (by omega), gd_b (k := 26) (c := 26) rfl (by omega) (by omega), ix_b (k := 22) (c := 22) rfl (by omega), ix_b (k := 23) (c := 23) rfl (by omega), ix_b (k := 24) (c := 24) rfl (by omega), ix_b (k := 25) (c := 25) rfl (by omega), ix_b (k := 26) (c := 26) rfl (by omega)]
  simp only [mi_wi, mi_upR, if_neg (show ¬ (m = ad T ∧ _) from fun z => ne0 z.1)]
  rw [← e0, upR_s M (ad T) o 22 (lv ad M) (o + 22) rfl (mi M (ad 0) 1) rfl, upR_s M (ad T) o 23 (lv ad M) (o + 23) rfl (mi M (ad 0) 4) rfl, upR_s M (ad T) o 24 (lv ad M) (o + 24) rfl (mi M (ad 0) 5) rfl, upR_s M (ad T) o 25 (lv ad M) (o + 25) rfl (mi M (ad 0) 6) rfl, upR_s M (ad T) o 26 (lv ad M) (o + 26) rfl (mi M (ad 0) 21) rfl, e0]
  obtain ⟨n, e⟩ := loop_FU (fun n (a : Mem) w => f_X9_layAll_L58 E n1 n a m (ad T) (nI o) w) (fun j => upR (upR (upR M (ad T) o 27 (lv ad M)) (ad T) (o + 27) j (fun i => lv ad M (27 + i))) (ad T) (o + 33) j (fun i => lv ad M (33 + i))) 6 (by decide) (by
    intro n j hj
    show b_X9_layAll_L58 E n1 (f_X9_layAll_L58 E n1 n) _ m (ad T) (nI o) (nI j) = _
    unfold b_X9_layAll_L58
    dsimp only [nm]
    rw [if_neg (lt6 hj), gd_nI hj (by decide), gd_a (k := 27) (c := 27) rfl (by omega) (by omega), gd_a (k := 33) (c := 33) rfl (by omega) (by omega), ix_nI (by omega), ix_a (k := 27) (c := 27) rfl (by omega), ix_a (k := 33) (c := 33) rfl (by omega), n_7 hN, n_8 hN, nI_1]
    rw [upR_s2 _ (ad T) (o + 27) (ad T) (o + 33) j _ _ (fun i i' h1 h2 z => by omega) (o + 27 + j) (o + 33 + j) rfl rfl _ _ (by rw [mi_upR, if_neg (fun z => ne 7 (by omega) z.1), mi_upR, if_neg (fun z => ne 7 (by omega) z.1), mi_upR, if_neg (fun z => ne 7 (by omega) z.1)]; exact (lv_kd hj).symm) (by rw [mi_wi, if_neg (fun z => ne 8 (by omega) z.1), mi_upR, if_neg (fun z => ne 8 (by omega) z.1), mi_upR, if_neg (fun z => ne 8 (by omega) z.1), mi_upR, if_neg (fun z => ne 8 (by omega) z.1)]; exact (lv_wt hj).symm)])
  rw [upR_0, upR_0] at e
  refine e.trans ?_
  show b_X9_layAll_L58 E n1 (f_X9_layAll_L58 E n1 n) _ m (ad T) (nI o) (nI 6) = _
  unfold b_X9_layAll_L58
  rw [if_pos (by decide), upR_join M (ad T) o 27 6 (lv ad M) _ (fun _ _ => rfl) _ rfl, upR_join M (ad T) o 33 6 (lv ad M) _ (fun _ _ => rfl) _ rfl]
  clear e
  obtain ⟨n2, e⟩ := loop_FU (fun n (a : Mem) w => f_X9_layAll_L100 E n1 n a m (ad T) (nI o) w) (fun j => upR (upR M (ad T) o 39 (lv ad M)) (ad T) (o + 39) j (fun i => lv ad M (39 + i))) 18 (by decide) (by
    intro n j hj
    show b_X9_layAll_L100 E n1 (f_X9_layAll_L100 E n1 n) _ m (ad T) (nI o) (nI j) = _
    unfold b_X9_layAll_L100
    rw [if_neg (show ¬ (18 : Int32) ≤ nI j from nI_ge (b := 18) hj (by decide)), gd_nI hj (by decide), gd_a (k := 39) (c := 39) rfl (by omega) (by omega), ix_nI (by omega), ix_a (k := 39) (c := 39) rfl (by omega), n_12 hN, nI_1, mi_upR, if_neg (fun z => ne 12 (by omega) z.1), mi_upR, if_neg (fun z => ne 12 (by omega) z.1), upR_s _ _ _ _ (fun i => lv ad M (39 + i)) _ rfl _ (lv_so hj).symm])
  rw [upR_0] at e
  refine e.trans ?_
  show b_X9_layAll_L100 E n1 (f_X9_layAll_L100 E n1 n2) _ m (ad T) (nI o) (nI 18) = _
  unfold b_X9_layAll_L100
  rw [if_pos (by decide), upR_join M (ad T) o 39 18 (lv ad M) _ (fun _ _ => rfl) _ rfl]
  clear e
  obtain ⟨n3, e⟩ := loop_FU (fun n (a : Mem) w => f_X9_layAll_L128 E n1 n a m (ad T) (nI o) w) (fun j => upR (upR (upR M (ad T) o 57 (lv ad M)) (ad T) (o + 57) j (fun i => lv ad M (57 + i))) (ad T) (o + 81) j (fun i => lv ad M (81 + i))) 24 (by decide) (by
    intro n j hj
    show b_X9_layAll_L128 E n1 (f_X9_layAll_L128 E n1 n) _ m (ad T) (nI o) (nI j) = _
    unfold b_X9_layAll_L128
    dsimp only [nm]
    rw [if_neg (show ¬ (24 : Int32) ≤ nI j from nI_ge (b := 24) hj (by decide)), gd_nI hj (by decide), gd_a (k := 57) (c := 57) rfl (by omega) (by omega), gd_a (k := 81) (c := 81) rfl (by omega) (by omega), ix_nI (by omega), ix_a (k := 57) (c := 57) rfl (by omega), ix_a (k := 81) (c := 81) rfl (by omega), n_13 hN, n_14 hN, nI_1]
    rw [upR_s2 _ (ad T) (o + 57) (ad T) (o + 81) j _ _ (fun i i' h1 h2 z => by omega) (o + 57 + j) (o + 81 + j) rfl rfl _ _ (by rw [mi_upR, if_neg (fun z => ne 13 (by omega) z.1), mi_upR, if_neg (fun z => ne 13 (by omega) z.1), mi_upR, if_neg (fun z => ne 13 (by omega) z.1)]; exact (lv_no hj).symm) (by rw [mi_wi, if_neg (fun z => ne 14 (by omega) z.1), mi_upR, if_neg (fun z => ne 14 (by omega) z.1), mi_upR, if_neg (fun z => ne 14 (by omega) z.1), mi_upR, if_neg (fun z => ne 14 (by omega) z.1)]; exact (lv_ma hj).symm)])
  rw [upR_0, upR_0] at e
  refine e.trans ?_
  show b_X9_layAll_L128 E n1 (f_X9_layAll_L128 E n1 n3) _ m (ad T) (nI o) (nI 24) = _
  unfold b_X9_layAll_L128
  rw [if_pos (by decide), upR_join M (ad T) o 57 24 (lv ad M) _ (fun _ _ => rfl) _ rfl, upR_join M (ad T) o 81 24 (lv ad M) _ (fun _ _ => rfl) _ rfl]
  clear e
  obtain ⟨n4, e⟩ := loop_FU (fun n (a : Mem) w => f_X9_layAll_L170 E n1 n a m (ad T) (nI o) w) (fun j => upR (upR M (ad T) o 105 (lv ad M)) (ad T) (o + 105) j (fun i => lv ad M (105 + i))) 176 (by decide) (by
    intro n j hj
    show b_X9_layAll_L170 E n1 (f_X9_layAll_L170 E n1 n) _ m (ad T) (nI o) (nI j) = _
    unfold b_X9_layAll_L170
    rw [if_neg (show ¬ (176 : Int32) ≤ nI j from nI_ge (b := 176) hj (by decide)), gd_nI hj (by decide), gd_a (k := 105) (c := 105) rfl (by omega) (by omega), ix_nI (by omega), ix_a (k := 105) (c := 105) rfl (by omega), n_20 hN, nI_1, mi_upR, if_neg (fun z => ne 20 (by omega) z.1), mi_upR, if_neg (fun z => ne 20 (by omega) z.1), upR_s _ _ _ _ (fun i => lv ad M (105 + i)) _ rfl _ (lv_ah j).symm])
  rw [upR_0] at e
  refine e.trans ?_
  show b_X9_layAll_L170 E n1 (f_X9_layAll_L170 E n1 n4) _ m (ad T) (nI o) (nI 176) = _
  unfold b_X9_layAll_L170
  rw [if_pos (by decide), upR_join M (ad T) o 105 176 (lv ad M) _ (fun _ _ => rfl) _ rfl]
end Block35
