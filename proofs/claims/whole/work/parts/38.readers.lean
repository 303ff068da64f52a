/-! the readers: both answer alike -/
section Al38
variable {E : Env1} {x m : Nat} {M : Mem}
theorem ok_word (hI : Inv E x m M) : al_word Inv E x m M := by
  intro a1
  obtain ⟨ad, h, pi, hN, ho, hc, hb, k1, k2, k3, k4, k5⟩ := id hI
  obtain ⟨rfl, rfl⟩ : m = ad 0 ∧ x = ad 50 := ⟨hN.1.symm, hN.2.1.symm⟩
  have r := RO_of ho.1.1 hb
  have hH := hn_of hN (H := 100) (Or.inl rfl)
  have hS := sn_of hN (H := 100) (Or.inl rfl)
  have hT : sT (oS h) < 2 ^ 31 := by have := ho.2.1; omega
  have hp : oP h ≤ 6 := ho.1.1
  by_cases g : inP (oP h) a1
  · obtain ⟨i, hi, rfl⟩ := inP_ex hp g
    refine ⟨nI (worN (oK h i) (sP (oS h) i) (sT (oS h) % 24)), M, M, ?_, ?_, hI⟩
    · unfold f_X8_word
      rw [n_100 hN, hasP_t hp hc.1.1 g, if_neg I10, hH.2.2.1, hc.1.2.2.2.2.2.2.2, worth_eq hH hS ho.1 hi hT hc.1]
      rfl
    · unfold f_X9_word
      rw [one_t r.1 g, if_neg I10, day_eq hN hT r, worth9_eq hN ho.1 hi r]
      rfl
  · exact fin_bad hN ho hc hb k1 k2 k3 k4 k5 (by unfold f_X8_word; rw [n_100 hN, hasP_f hc.1.1 g, if_pos I00]; rfl) (fun M1 u => by unfold f_X9_word; rw [one_f ((u 0 (by decide) 1).trans r.1) g, if_pos I00]; rfl)
theorem highN_of (s : Sd) (i : Nat) (E : Env1) (M : Mem) {ad : Nat → Nat} {x m p : Nat} (hN : Nm E x m ad) (hi : i < 6) (hip : i < p) (hv : ∀ i, sN s i < 256) (hM : ML ad M p s) : ∀ n v, v ≤ 9 → 9 - v < n → f_X9_high_L20 E n M m (nI i) (nI v - 1) = some (nI (highN s i n v) - 1, M) := by
  intro n
  induction n with
  | zero => intro v _ h; omega
  | succ n ih =>
    intro v hv9 hn
    show b_X9_high_L20 E (f_X9_high_L20 E n) M m (nI i) (nI v - 1) = _
    unfold b_X9_high_L20 highN
    simp only [pl_ge8 hv9]
    by_cases h9 : 9 ≤ v
    · rw [if_pos h9, if_pos h9]
    · rw [if_neg h9, if_neg h9]
      have e7 : (nI v - 1 = (7 : Int32)) = (v = 8) := by
        revert hv9
        clear ih hn h9
        revert v
        decide +kernel
      simp only [e7]
      unfold bears
      by_cases e8 : v = 8
      · rw [if_pos e8, pl_up', ih (v + 1) (by omega) (by omega), decide_eq_true (show 8 ≤ v by omega), Bool.true_or, if_pos rfl]
      · rw [if_neg e8, gd_nI hi (by decide), ix_nI (by omega), n_10 hN, pl_up, hM.2.2.1 i hip, has_eq (by have := hv i; omega) (by omega), decide_eq_false (show ¬ 8 ≤ v by omega), Bool.false_or]
        cases (sN s i).testBit v
        · rfl
        · rw [if_neg (by decide), if_pos rfl, nI_m1 v, ih (v + 1) (by omega) (by omega)]
theorem ok_high (hI : Inv E x m M) : al_high Inv E x m M := by
  intro a1
  obtain ⟨ad, h, pi, hN, ho, hc, hb, k1, k2, k3, k4, k5⟩ := id hI
  obtain ⟨rfl, rfl⟩ : m = ad 0 ∧ x = ad 50 := ⟨hN.1.symm, hN.2.1.symm⟩
  have r := RO_of ho.1.1 hb
  have hH := hn_of hN (H := 100) (Or.inl rfl)
  have hS := sn_of hN (H := 100) (Or.inl rfl)
  have hT : sT (oS h) < 2 ^ 31 := by have := ho.2.1; omega
  have hp : oP h ≤ 6 := ho.1.1
  by_cases g : inP (oP h) a1
  · obtain ⟨i, hi, rfl⟩ := inP_ex hp g
    have h6 : i < 6 := Nat.lt_of_lt_of_le hi hp
    refine ⟨nI (highN (oS h) i 10 (sP (oS h) i)) - 1, M, M, ?_, ?_, hI⟩
    · unfold f_X8_high
      rw [n_100 hN, hasP_t hp hc.1.1 g, if_neg I10, hH.2.2.1, highest_eq hS h6 ho.1.2.2.2 hc.1.2.2.2]
      rfl
    · unfold f_X9_high
      rw [one_t r.1 g, if_neg I10, gd_nI h6 (by decide), ix_nI (by omega), n_9 hN, r.2.2.2.2.2.2.1 i hi, highN_of (oS h) i E M hN h6 hi ho.1.2.2.2.2.2.2.1 r.2.2.2 FU _ (ho.1.2.2.2.2.2.2.2.1 i) (by unfold FU; omega), high_st _ _ FU _ (ho.1.2.2.2.2.2.2.2.1 i) (by unfold FU; omega)]
  · exact fin_ten hN ho hc hb k1 k2 k3 k4 k5 (by unfold f_X8_high; rw [n_100 hN, hasP_f hc.1.1 g, if_pos I00]; rfl) (fun M1 u => by unfold f_X9_high; rw [one_f ((u 0 (by decide) 1).trans r.1) g, if_pos I00]; rfl)
theorem ok_of (hI : Inv E x m M) : al_of Inv E x m M := by
  intro a1 a2
  obtain ⟨ad, h, pi, hN, ho, hc, hb, k1, k2, k3, k4, k5⟩ := id hI
  obtain ⟨rfl, rfl⟩ : m = ad 0 ∧ x = ad 50 := ⟨hN.1.symm, hN.2.1.symm⟩
  have r := RO_of ho.1.1 hb
  have hH := hn_of hN (H := 100) (Or.inl rfl)
  have hS := sn_of hN (H := 100) (Or.inl rfl)
  have hT : sT (oS h) < 2 ^ 31 := by have := ho.2.1; omega
  have hp : oP h ≤ 6 := ho.1.1
  by_cases g : inP (oP h) a1
  · by_cases g2 : (0 : Int32) ≤ a2 ∧ a2 ≤ 3
    · obtain ⟨i, hi, rfl⟩ := inP_ex hp g
      have h6 : i < 6 := Nat.lt_of_lt_of_le hi hp
      obtain ⟨k, hk, rfl⟩ := rg (n := 3) (by decide) g2
      have e8 : ∀ k, k ≤ 3 → f_X8_of E M (ad 50) (nI i) (nI k) = some (if k = 0 then nI (oK h i) else if k = 1 then nI (oW h i) else if k = 2 then nI (sP (oS h) i) - 1 else nI (sN (oS h) i), M) := by
        intro k hk
        unfold f_X8_of
        rw [n_100 hN, hasP_t hp hc.1.1 g, if_neg I10]
        rcases (show k = 0 ∨ k = 1 ∨ k = 2 ∨ k = 3 by omega) with rfl | rfl | rfl | rfl
        · rw [if_pos (by decide), gd_nI h6 (by decide), ix_nI (by omega), hH.1, hc.1.2.1 i hi]; rfl
        · rw [if_neg (by decide), if_pos (by decide), gd_nI h6 (by decide), ix_nI (by omega), hH.2.1, hc.1.2.2.1 i hi]; rfl
        · rw [if_neg (by decide), if_neg (by decide), if_pos (by decide), gd_nI h6 (by decide), ix_nI (by omega), hH.2.2.1, hS.2.2, hc.1.2.2.2.2.2.1 i h6]; rfl
        · rw [if_neg (by decide), if_neg (by decide), if_neg (by decide), if_pos (by decide), gd_nI h6 (by decide), ix_nI (by omega), hH.2.2.1, hS.2.1, hc.1.2.2.2.2.1 i h6]; rfl
      have e9 : ∀ k, k ≤ 3 → f_X9_of E M (ad 0) (nI i) (nI k) = some (if k = 0 then nI (oK h i) else if k = 1 then nI (oW h i) else if k = 2 then nI (sP (oS h) i) - 1 else nI (sN (oS h) i), M) := by
        intro k hk
        unfold f_X9_of
        rw [one_t r.1 g, if_neg I10, in_t (b := 0) (c := 3) ⟨nI_pos' (by omega), nI_le (a := k) (b := 3) hk (by decide)⟩, if_neg I10]
        rcases (show k = 0 ∨ k = 1 ∨ k = 2 ∨ k = 3 by omega) with rfl | rfl | rfl | rfl
        · rw [if_pos (by decide), gd_nI h6 (by decide), ix_nI (by omega), n_7 hN, r.2.1 i hi]; rfl
        · rw [if_neg (by decide), if_pos (by decide), gd_nI h6 (by decide), ix_nI (by omega), n_8 hN, r.2.2.1 i hi]; rfl
        · rw [if_neg (by decide), if_neg (by decide), if_pos (by decide), gd_nI h6 (by decide), ix_nI (by omega), n_9 hN, r.2.2.2.2.2.2.1 i hi]; rfl
        · rw [if_neg (by decide), if_neg (by decide), if_neg (by decide), gd_nI h6 (by decide), ix_nI (by omega), n_10 hN, r.2.2.2.2.2.1 i hi]; rfl
      exact ⟨_, M, M, e8 k hk, e9 k hk, hI⟩
    · have z : ∀ c : Int32, (0 ≤ c ∧ c ≤ 3) → ¬ a2 = c := fun c hc e => g2 (e ▸ hc)
      exact fin_ten hN ho hc hb k1 k2 k3 k4 k5 (by unfold f_X8_of; rw [n_100 hN, hasP_t hp hc.1.1 g, if_neg I10, if_neg (z 0 (by decide)), if_neg (z 1 (by decide)), if_neg (z 2 (by decide)), if_neg (z 3 (by decide))]; rfl) (fun M1 u => by unfold f_X9_of; rw [one_t ((u 0 (by decide) 1).trans r.1) g, if_neg I10, in_f g2, if_pos I00]; rfl)
  · exact fin_ten hN ho hc hb k1 k2 k3 k4 k5 (by unfold f_X8_of; rw [n_100 hN, hasP_f hc.1.1 g, if_pos I00]; rfl) (fun M1 u => by unfold f_X9_of; rw [one_f ((u 0 (by decide) 1).trans r.1) g, if_pos I00]; rfl)
theorem ok_about (hI : Inv E x m M) : al_about Inv E x m M := by
  intro a1 a2
  obtain ⟨ad, h, pi, hN, ho, hc, hb, k1, k2, k3, k4, k5⟩ := id hI
  obtain ⟨rfl, rfl⟩ : m = ad 0 ∧ x = ad 50 := ⟨hN.1.symm, hN.2.1.symm⟩
  have r := RO_of ho.1.1 hb
  have hH := hn_of hN (H := 100) (Or.inl rfl)
  have hS := sn_of hN (H := 100) (Or.inl rfl)
  have hT : sT (oS h) < 2 ^ 31 := by have := ho.2.1; omega
  have hp : oP h ≤ 6 := ho.1.1
  by_cases gs : (0 : Int32) ≤ a1 ∧ a1 ≤ 7
  · by_cases g2 : (0 : Int32) ≤ a2 ∧ a2 ≤ 2
    · obtain ⟨i, hi, e1⟩ := rg (n := 7) (by decide) gs
      obtain ⟨k, hk, rfl⟩ := rg (n := 2) (by decide) g2
      have e8 : ∀ k, k ≤ 2 → f_X8_about E M (ad 50) a1 (nI k) = some (if k = 0 then nI (sS (oS h) i) else if k = 1 then nI (setOf (oP h) (fun j => (sN (oS h) j).testBit i)) else if (sC (oS h)).testBit i then 1 else 0, M) := by
        intro k hk
        unfold f_X8_about
        rw [st8_t gs, if_neg I10, e1]
        rcases (show k = 0 ∨ k = 1 ∨ k = 2 by omega) with rfl | rfl | rfl
        · rw [if_pos (by decide), gd_nI (by omega) (by decide), ix_nI (by omega), n_100 hN, hH.2.2.1, hS.1, hc.1.2.2.2.1 i (by omega)]; rfl
        · rw [if_neg (by decide), if_pos (by decide), n_100 hN, hH.2.2.1, knowers_eq hS (by omega) ho.1.2.2.2.2.2.2.1 hc.1.2.2.2.2.1, who_6 ho.1.2.2.2 hp]; rfl
        · rw [if_neg (by decide), if_neg (by decide), if_pos (by decide), n_100 hN, hH.2.2.1, hc.1.2.2.2.2.2.2.1, shrb (by have := ho.1.2.2.2.2.1; omega) (by omega)]; rfl
      have e9 : ∀ k, k ≤ 2 → f_X9_about E M (ad 0) a1 (nI k) = some (if k = 0 then nI (sS (oS h) i) else if k = 1 then nI (setOf (oP h) (fun j => (sN (oS h) j).testBit i)) else if (sC (oS h)).testBit i then 1 else 0, M) := by
        intro k hk
        unfold f_X9_about
        rw [st9_t gs, if_neg I10, in_t (b := 0) (c := 2) ⟨nI_pos' (by omega), nI_le (a := k) (b := 2) hk (by decide)⟩, if_neg I10, e1]
        rcases (show k = 0 ∨ k = 1 ∨ k = 2 by omega) with rfl | rfl | rfl
        · rw [if_pos (by decide), gd_nI (by omega) (by decide), ix_nI (by omega), n_11 hN, r.2.2.2.2.2.2.2 i (by omega)]; rfl
        · rw [if_neg (by decide), if_pos (by decide), whoKnows_eq hN (by omega) hp ho.1.2.2.2.2.2.2.1 r.1 r.2.2.2]; rfl
        · rw [if_neg (by decide), if_neg (by decide), r.2.2.2.2.1, shrb (by have := ho.1.2.2.2.2.1; omega) (by omega)]; rfl
      exact ⟨_, M, M, e8 k hk, e9 k hk, hI⟩
    · have z : ∀ c : Int32, (0 ≤ c ∧ c ≤ 2) → ¬ a2 = c := fun c hc e => g2 (e ▸ hc)
      exact fin_bad hN ho hc hb k1 k2 k3 k4 k5 (by unfold f_X8_about; rw [st8_t gs, if_neg I10, if_neg (z 0 (by decide)), if_neg (z 1 (by decide)), if_neg (z 2 (by decide))]; rfl) (fun M1 u => by unfold f_X9_about; rw [st9_t gs, if_neg I10, in_f g2, if_pos I00]; rfl)
  · exact fin_bad hN ho hc hb k1 k2 k3 k4 k5 (by unfold f_X8_about; rw [st8_f gs, if_pos I00]; rfl) (fun M1 u => by unfold f_X9_about; rw [st9_f gs, if_pos I00]; rfl)
theorem ok_asks (hI : Inv E x m M) : al_asks Inv E x m M := by
  intro a1 a2 a3
  obtain ⟨ad, h, pi, hN, ho, hc, hb, k1, k2, k3, k4, k5⟩ := id hI
  obtain ⟨rfl, rfl⟩ : m = ad 0 ∧ x = ad 50 := ⟨hN.1.symm, hN.2.1.symm⟩
  have r := RO_of ho.1.1 hb
  have hH := hn_of hN (H := 100) (Or.inl rfl)
  have hS := sn_of hN (H := 100) (Or.inl rfl)
  have hT : sT (oS h) < 2 ^ 31 := by have := ho.2.1; omega
  have hp : oP h ≤ 6 := ho.1.1
  by_cases g : inP (oP h) a1
  · by_cases gs : (0 : Int32) ≤ a2 ∧ a2 ≤ 7
    · obtain ⟨i, hi, e1⟩ := inP_ex hp g
      have h6 : i < 6 := Nat.lt_of_lt_of_le hi hp
      obtain ⟨s, hs, e2⟩ := rg (n := 7) (by decide) gs
      have hs8 : s < 8 := by omega
      have eo := others_eq hH hS ho.1 h6 hs8 hc.1
      by_cases g2 : (0 : Int32) ≤ a3 ∧ a3 ≤ 2
      · obtain ⟨k, hk, rfl⟩ := rg (n := 2) (by decide) g2
        have e8 : ∀ k, k ≤ 2 → f_X8_asks E M (ad 50) a1 a2 (nI k) = some (if k = 0 then nI (wantN h i s (sT (oS h))) else if k = 1 then nI (wordN h (othersN h i s) (sT (oS h))) else if meetB h i s (othersN h i s) (sT (oS h)) then 1 else 0, M) := by
          intro k hk
          unfold f_X8_asks
          rw [n_100 hN, hasP_t hp hc.1.1 g, if_neg I10, st8_t gs, if_neg I10, e1, e2, eo, Option.bind_some, hH.2.2.1, hc.1.2.2.2.2.2.2.2]
          rcases (show k = 0 ∨ k = 1 ∨ k = 2 by omega) with rfl | rfl | rfl
          · rw [if_pos (by decide), wanted_eq hH hS ho.1 hi hs8 hT hc.1]; rfl
          · rw [if_neg (by decide), if_pos (by decide), wordOf_eq hH hS ho.1 (others_lt _ _ _) hT hc.1]; rfl
          · rw [if_neg (by decide), if_neg (by decide), if_pos (by decide), meet_eq hH hS ho.1 hi hs8 (others_lt _ _ _) hT hc.1, Option.bind_some]
            cases meetB h i s (othersN h i s) (sT (oS h)) <;> rfl
        have e9 : ∀ k, k ≤ 2 → f_X9_asks E M (ad 0) a1 a2 (nI k) = some (if k = 0 then nI (wantN h i s (sT (oS h))) else if k = 1 then nI (wordN h (othersN h i s) (sT (oS h))) else if meetB h i s (othersN h i s) (sT (oS h)) then 1 else 0, M) := by
          intro k hk
          unfold f_X9_asks
          rw [one_t r.1 g, if_neg I10, st9_t gs, if_neg I10, in_t (b := 0) (c := 2) ⟨nI_pos' (by omega), nI_le (a := k) (b := 2) hk (by decide)⟩, if_neg I10, e1, e2, day_eq hN hT r]
          rcases (show k = 0 ∨ k = 1 ∨ k = 2 by omega) with rfl | rfl | rfl
          · rw [if_pos (by decide), wants9_eq hN ho.1 hi hs8 r]; rfl
          · rw [if_neg (by decide), if_pos (by decide), wordFor_eq hN ho.1 h6 hs8 r]; rfl
          · rw [if_neg (by decide), if_neg (by decide), gd_nI h6 (by decide), ix_nI (by omega), n_10 hN, r.2.2.2.2.2.1 i hi, has_eq (by have := ho.1.2.2.2.2.2.2.1 i; omega) (by omega), mayMeet_eq hN ho.1 hi hs8 r, Option.bind_some]
            unfold meetB
            cases (sN (oS h) i).testBit s
            · by_cases gg : wantN h i s (sT (oS h)) ≤ wordN h (othersN h i s) (sT (oS h))
              · rw [if_pos gg, decide_eq_true gg]; rfl
              · rw [if_neg gg, decide_eq_false gg]; rfl
            · rfl
        exact ⟨_, M, M, e8 k hk, e9 k hk, hI⟩
      · have z : ∀ c : Int32, (0 ≤ c ∧ c ≤ 2) → ¬ a3 = c := fun c hc e => g2 (e ▸ hc)
        exact fin_bad hN ho hc hb k1 k2 k3 k4 k5 (by unfold f_X8_asks; rw [n_100 hN, hasP_t hp hc.1.1 g, if_neg I10, st8_t gs, if_neg I10, e1, e2, eo, Option.bind_some, if_neg (z 0 (by decide)), if_neg (z 1 (by decide)), if_neg (z 2 (by decide))]; rfl) (fun M1 u => by unfold f_X9_asks; rw [one_t ((u 0 (by decide) 1).trans r.1) g, if_neg I10, st9_t gs, if_neg I10, in_f g2, if_pos I00]; rfl)
    · exact fin_bad hN ho hc hb k1 k2 k3 k4 k5 (by unfold f_X8_asks; rw [n_100 hN, hasP_t hp hc.1.1 g, if_neg I10, st8_f gs, if_pos I00]; rfl) (fun M1 u => by unfold f_X9_asks; rw [one_t ((u 0 (by decide) 1).trans r.1) g, if_neg I10, st9_f gs, if_pos I00]; rfl)
  · exact fin_bad hN ho hc hb k1 k2 k3 k4 k5 (by unfold f_X8_asks; rw [n_100 hN, hasP_f hc.1.1 g, if_pos I00]; rfl) (fun M1 u => by unfold f_X9_asks; rw [one_f ((u 0 (by decide) 1).trans r.1) g, if_pos I00]; rfl)
theorem ok_part (hI : Inv E x m M) : al_part Inv E x m M := by
  intro a1
  obtain ⟨ad, h, pi, hN, ho, hc, hb, k1, k2, k3, k4, k5⟩ := id hI
  obtain ⟨rfl, rfl⟩ : m = ad 0 ∧ x = ad 50 := ⟨hN.1.symm, hN.2.1.symm⟩
  have r := RO_of ho.1.1 hb
  have hH := hn_of hN (H := 100) (Or.inl rfl)
  have hS := sn_of hN (H := 100) (Or.inl rfl)
  have hT : sT (oS h) < 2 ^ 31 := by have := ho.2.1; omega
  have hp : oP h ≤ 6 := ho.1.1
  by_cases z0 : a1 = 0
  · refine ⟨ml M (ad 50) 6, M, M, ?_, ?_, hI⟩
    · unfold f_X8_part; rw [if_pos z0]
    · unfold f_X9_part; rw [if_pos z0, k2.1]
  · by_cases z1 : a1 = 1
    · refine ⟨ml M (ad 50) 7, M, M, ?_, ?_, hI⟩
      · unfold f_X8_part; rw [if_neg z0, if_pos z1]
      · unfold f_X9_part; rw [if_neg z0, if_pos z1, k2.2]
    · refine ⟨(-2 : Int32).toInt64, wi M (ad 50) (8 + 0) (mi M (ad 50) (8 + 0) + 1), _, ?_, ?_, inv_ref hN ho hc hb k1 k2 k3 k4 k5 0⟩
      · unfold f_X8_part; rw [if_neg z0, if_neg z1]; rfl
      · unfold f_X9_part f_X9_bad; rw [if_neg z0, if_neg z1, n_1 hN]; rfl
theorem ok_status (hI : Inv E x m M) : al_status Inv E x m M := by
  intro a1
  obtain ⟨ad, h, pi, hN, ho, hc, hb, k1, k2, k3, k4, k5⟩ := id hI
  obtain ⟨rfl, rfl⟩ : m = ad 0 ∧ x = ad 50 := ⟨hN.1.symm, hN.2.1.symm⟩
  have r := RO_of ho.1.1 hb
  have hH := hn_of hN (H := 100) (Or.inl rfl)
  have hS := sn_of hN (H := 100) (Or.inl rfl)
  have hT : sT (oS h) < 2 ^ 31 := by have := ho.2.1; omega
  have hp : oP h ≤ 6 := ho.1.1
  by_cases g2 : (0 : Int32) ≤ a1 ∧ a1 ≤ 2
  · obtain ⟨k, hk, rfl⟩ := rg (n := 2) (by decide) g2
    refine ⟨mi M (ad 50) (8 + k), M, M, ?_, ?_, hI⟩
    · unfold f_X8_status
      rcases (show k = 0 ∨ k = 1 ∨ k = 2 by omega) with rfl | rfl | rfl
      · rw [if_pos (by decide)]
      · rw [if_neg (by decide), if_pos (by decide)]
      · rw [if_neg (by decide), if_neg (by decide), if_pos (by decide)]
    · unfold f_X9_status
      rw [in_t g2, if_neg I10, gd_nI (by omega) (by decide), ix_nI (by omega), n_1 hN, k1 k (by omega)]
  · have z : ∀ c : Int32, (0 ≤ c ∧ c ≤ 2) → ¬ a1 = c := fun c hc e => g2 (e ▸ hc)
    refine ⟨-1, wi M (ad 50) (8 + 0) (mi M (ad 50) (8 + 0) + 1), _, ?_, ?_, inv_ref hN ho hc hb k1 k2 k3 k4 k5 0⟩
    · unfold f_X8_status; rw [if_neg (z 0 (by decide)), if_neg (z 1 (by decide)), if_neg (z 2 (by decide))]; rfl
    · unfold f_X9_status; rw [in_f g2, if_pos I00, n_1 hN]
def countN (h : Ho) (t k : Nat) : Nat := if k = 0 then oP h else if k = 1 then sT (oS h) else if k = 2 then knownAllN (oP h) (oS h) else if k = 3 then popc (sC (oS h)) else if k = 4 then atTopN (oP h) (oS h) else if k = 5 then oA h else if k = 6 then oB h else if k = 7 then oC h else if k = 8 then oU h else t
theorem counted_eq {ad : Nat → Nat} {h : Ho} {pi : Nat → Nat} (hN : Nm E (ad 50) (ad 0) ad) (ho : okH h) (hc : CH ad M 100 h pi) {t : Nat} (ht : mi M (ad 54) 0 = nI t) {k : Nat} (hk : k ≤ 9) : f_X8_counted E M (ad 50) (nI k) = some (nI (countN h t k)) := by
  have hH := hn_of hN (H := 100) (Or.inl rfl)
  have hS := sn_of hN (H := 100) (Or.inl rfl)
  unfold f_X8_counted countN
  rw [n_100 hN, hH.2.2.1]
  rcases (show k = 0 ∨ k = 1 ∨ k = 2 ∨ k = 3 ∨ k = 4 ∨ k = 5 ∨ k = 6 ∨ k = 7 ∨ k = 8 ∨ k = 9 by omega) with rfl | rfl | rfl | rfl | rfl | rfl | rfl | rfl | rfl | rfl
  · rw [if_pos (by decide), hc.1.1]; rfl
  · rw [if_neg (by decide), if_pos (by decide), hc.1.2.2.2.2.2.2.2]; rfl
  · rw [if_neg (by decide), if_neg (by decide), if_pos (by decide), knownTogether_eq hS ho.1.2.2.2 hc.1.2.2.2, knownAll_6 ho.1.2.2.2 ho.1.1]; rfl
  · rw [if_neg (by decide), if_neg (by decide), if_neg (by decide), if_pos (by decide), hc.1.2.2.2.2.2.2.1, bitCount_eq E M (by have := ho.1.2.2.2.2.1; omega)]; rfl
  · rw [if_neg (by decide), if_neg (by decide), if_neg (by decide), if_neg (by decide), if_pos (by decide), atTop_eq hS ho.1.2.2.2 hc.1.2.2.2, atTop_6 ho.1.2.2.2 ho.1.1]; rfl
  · rw [if_neg (by decide), if_neg (by decide), if_neg (by decide), if_neg (by decide), if_neg (by decide), if_pos (by decide), hH.2.2.2.2.1, hc.2.2.1.1]; rfl
  · rw [if_neg (by decide), if_neg (by decide), if_neg (by decide), if_neg (by decide), if_neg (by decide), if_neg (by decide), if_pos (by decide), hH.2.2.2.2.2.1, hc.2.2.2.1.1]; rfl
  · rw [if_neg (by decide), if_neg (by decide), if_neg (by decide), if_neg (by decide), if_neg (by decide), if_neg (by decide), if_neg (by decide), if_pos (by decide), hH.2.2.2.2.2.2.1, hc.2.2.2.2.1.1]; rfl
  · rw [if_neg (by decide), if_neg (by decide), if_neg (by decide), if_neg (by decide), if_neg (by decide), if_neg (by decide), if_neg (by decide), if_neg (by decide), if_pos (by decide), hc.2.1]; rfl
  · rw [if_neg (by decide), if_neg (by decide), if_neg (by decide), if_neg (by decide), if_neg (by decide), if_neg (by decide), if_neg (by decide), if_neg (by decide), if_neg (by decide), n_54 hN, ht]; rfl
theorem countOf_eq {ad : Nat → Nat} {h : Ho} (hN : Nm E (ad 50) (ad 0) ad) (ho : okH h) (hb : IB (lv ad M) h) {t : Nat} (ht : mi M (ad 0) 16 = nI t) {k : Nat} (hk : k ≤ 9) : f_X9_countOf E M (ad 0) (nI k) = some (nI (countN h t k)) := by
  have r := RO_of ho.1.1 hb
  unfold f_X9_countOf countN
  rcases (show k = 0 ∨ k = 1 ∨ k = 2 ∨ k = 3 ∨ k = 4 ∨ k = 5 ∨ k = 6 ∨ k = 7 ∨ k = 8 ∨ k = 9 by omega) with rfl | rfl | rfl | rfl | rfl | rfl | rfl | rfl | rfl | rfl
  · rw [if_pos (by decide), r.1]; rfl
  · rw [if_neg (by decide), if_pos (by decide), r.2.2.2.1]; rfl
  · rw [if_neg (by decide), if_neg (by decide), if_pos (by decide), knownAll_eq hN ho.1.1 ho.1.2.2.2.2.2.2.1 r.1 r.2.2.2]; rfl
  · rw [if_neg (by decide), if_neg (by decide), if_neg (by decide), if_pos (by decide), r.2.2.2.2.1, bits_eq E M (by have := ho.1.2.2.2.2.1; omega)]; rfl
  · rw [if_neg (by decide), if_neg (by decide), if_neg (by decide), if_neg (by decide), if_pos (by decide), topMany_eq hN ho.1.1 ho.1.2.2.2 r.1 r.2.2.2]; rfl
  · rw [if_neg (by decide), if_neg (by decide), if_neg (by decide), if_neg (by decide), if_neg (by decide), if_pos (by decide)]; exact congrArg some hb.2.2.2.2.2.2.1
  · rw [if_neg (by decide), if_neg (by decide), if_neg (by decide), if_neg (by decide), if_neg (by decide), if_neg (by decide), if_pos (by decide)]; exact congrArg some hb.2.2.2.2.2.2.2.1
  · rw [if_neg (by decide), if_neg (by decide), if_neg (by decide), if_neg (by decide), if_neg (by decide), if_neg (by decide), if_neg (by decide), if_pos (by decide)]; exact congrArg some hb.2.2.2.2.2.2.2.2.1
  · rw [if_neg (by decide), if_neg (by decide), if_neg (by decide), if_neg (by decide), if_neg (by decide), if_neg (by decide), if_neg (by decide), if_neg (by decide), if_pos (by decide)]; exact congrArg some hb.2.2.2.2.1
  · rw [if_neg (by decide), if_neg (by decide), if_neg (by decide), if_neg (by decide), if_neg (by decide), if_neg (by decide), if_neg (by decide), if_neg (by decide), if_neg (by decide), ht]; rfl
theorem ok_count (hI : Inv E x m M) : al_count Inv E x m M := by
  intro a1
  obtain ⟨ad, h, pi, hN, ho, hc, hb, k1, k2, k3, k4, k5⟩ := id hI
  obtain ⟨rfl, rfl⟩ : m = ad 0 ∧ x = ad 50 := ⟨hN.1.symm, hN.2.1.symm⟩
  have r := RO_of ho.1.1 hb
  have hH := hn_of hN (H := 100) (Or.inl rfl)
  have hS := sn_of hN (H := 100) (Or.inl rfl)
  have hT : sT (oS h) < 2 ^ 31 := by have := ho.2.1; omega
  have hp : oP h ≤ 6 := ho.1.1
  by_cases g2 : (0 : Int32) ≤ a1 ∧ a1 ≤ 9
  · obtain ⟨k, hk, rfl⟩ := rg (n := 9) (by decide) g2
    obtain ⟨t, t1, t2, t3, -⟩ := k3
    refine ⟨nI (countN h t k), M, M, ?_, ?_, hI⟩
    · unfold f_X8_count
      rw [wi_t g2, if_neg I10, counted_eq hN ho hc t2 hk]
      rfl
    · unfold f_X9_count
      rw [in_t g2, if_neg I10, countOf_eq hN ho hb t3 hk]
      rfl
  · exact fin_bad hN ho hc hb k1 k2 k3 k4 k5 (by unfold f_X8_count; rw [wi_f g2, if_pos I00]; rfl) (fun M1 u => by unfold f_X9_count; rw [in_f g2, if_pos I00]; rfl)
end Al38
