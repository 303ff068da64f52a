/-! the reference's plan -/
section Al54
variable {E : Env1} {ad : Nat → Nat} {M M1 M2 : Mem} {h : Ho} {i : Nat}
def lkB (h : Ho) (i p2 s : Nat) : Bool := decide (sP (oS h) i ≤ s) && decide (s ≤ p2) && decide (s < 8) && !(sN (oS h) i).testBit s
def lkN (h : Ho) (i p2 : Nat) : Nat := setOf 8 (lkB h i p2)
theorem lkB_t {p2 s : Nat} : lkB h i p2 s = true ↔ sP (oS h) i ≤ s ∧ s ≤ p2 ∧ s < 8 ∧ (sN (oS h) i).testBit s = false := by
  unfold lkB
  cases (sN (oS h) i).testBit s <;> simp [and_assoc]
theorem lk_lo (p2 : Nat) : setOf (sP (oS h) i) (lkB h i p2) = 0 := by
  refine (set_ext (k := 0) (d := lkB h i p2) fun s => ?_).trans rfl
  by_cases g : s < sP (oS h) i
  · have : lkB h i p2 s = false := by
      cases e : lkB h i p2 s
      · rfl
      · have := (lkB_t.mp e).1; omega
    rw [this, Bool.and_false, Bool.and_false]
  · rw [decide_eq_false g, decide_eq_false (Nat.not_lt_zero s)]
theorem lk_hi {p2 N : Nat} (hN : p2 + 1 ≤ N ∨ 8 ≤ N) : setOf N (lkB h i p2) = lkN h i p2 := set_ext fun s => by
  cases e : lkB h i p2 s
  · rw [Bool.and_false, Bool.and_false]
  · have := lkB_t.mp e
    rw [decide_eq_true (show s < N by omega), decide_eq_true this.2.2.1]
theorem L47_sp (hN : Nm E (ad 50) (ad 0) ad) (r : RO ad M h) (ho : okP h) (hi : i < oP h) {p2 : Nat} (hp2 : p2 ≤ 8) (v3 : Int32) : f_X9_plan_L47 E FU M (ad 0) (nI i) (nI p2) v3 0 (nI (sP (oS h) i)) = f_X9_plan_L96 E FU M (ad 0) (nI i) v3 (nI (lkN h i p2)) 0 := by
  have hp := ho.1
  have h9 := ho.2.2.2.2.2.2.2.1 i
  refine loop_Q (fun q (a : Int32) w => f_X9_plan_L47 E q M (ad 0) (nI i) (nI p2) v3 a w) (fun j a => a = nI (setOf j (lkB h i p2)) ∧ sP (oS h) i ≤ j) (fun y => y = f_X9_plan_L96 E FU M (ad 0) (nI i) v3 (nI (lkN h i p2)) 0) (max (sP (oS h) i) (min (p2 + 1) 8)) ?_ ?_ FU (sP (oS h) i) 0 (Nat.le_max_left _ _) (by unfold FU; omega) ⟨by rw [lk_lo]; rfl, Nat.le_refl _⟩
  · intro q j a hj ⟨ha, hl⟩
    refine Or.inl ?_
    show ∃ s', b_X9_plan_L47 E (f_X9_plan_L47 E q) M (ad 0) (nI i) (nI p2) v3 a (nI j) = f_X9_plan_L47 E q M (ad 0) (nI i) (nI p2) v3 s' (nI (j + 1)) ∧ _
    unfold b_X9_plan_L47
    have hj8 : j < 8 := by omega
    rw [if_neg (nI_nlt (a := p2) (b := j) (by omega) (by omega)), if_neg (lt8 hj8), gd_nI (by omega) (by decide), ix_nI (by omega), n_10 hN, r.2.2.2.2.2.1 i hi, has_eq (by have := ho.2.2.2.2.2.2.1 i; omega) (by omega), nm_v, shl1 (by omega), nI_1, ha]
    refine ⟨_, rfl, ?_, by omega⟩
    show _ = nI (setOf j (lkB h i p2) ||| if lkB h i p2 j then 2 ^ j else 0)
    have e : lkB h i p2 j = !(sN (oS h) i).testBit j := by
      unfold lkB
      rw [decide_eq_true hl, decide_eq_true (show j ≤ p2 by omega), decide_eq_true hj8]
      rfl
    rw [e]
    cases (sN (oS h) i).testBit j
    · exact nI_or _ _
    · exact nI_or _ 0
  · intro q a ⟨ha, hl⟩
    show b_X9_plan_L47 E (f_X9_plan_L47 E q) M (ad 0) (nI i) (nI p2) v3 a (nI (max (sP (oS h) i) (min (p2 + 1) 8))) = _
    unfold b_X9_plan_L47
    rw [ha, lk_hi (by omega)]
    by_cases g : p2 < max (sP (oS h) i) (min (p2 + 1) 8)
    · rw [if_pos (nI_lt g (by omega))]
    · rw [if_neg (nI_nlt (a := p2) (b := max (sP (oS h) i) (min (p2 + 1) 8)) (by omega) (by omega)), if_pos (show (8 : Int32) ≤ nI (max (sP (oS h) i) (min (p2 + 1) 8)) from nI_le (a := 8) (by omega) (by omega))]
theorem PlM_wi (hI : ∀ n n', ad n = ad n' → n = n') (k : Nat) (v : Int32) : PlM ad M (wi M (ad 24) k v) := ⟨fun n hn j => by rw [mi_wi, if_neg (fun z => hn (hI _ _ z.1))], fun _ _ _ => rfl, rfl⟩
theorem L114_sp (hN : Nm E (ad 50) (ad 0) ad) (r : RO ad M h) (ho : okP h) (hi : i < oP h) (k96 : Mem → Nat → Int32 → Int32 → Int32 → Int32 → Option (Int32 × Mem)) (v3 v4 : Int32) {d : Nat} (hd : d < 24) : ∃ Mz, f_X9_plan_L114 E k96 FU (wi M (ad 24) d 0) (ad 0) (nI i) v3 v4 (nI d) 0 = k96 Mz (ad 0) (nI i) v3 v4 (nI (d + 1)) ∧ PlM ad M Mz ∧ (∀ k, k ≠ d → mi Mz (ad 24) k = mi M (ad 24) k) ∧ mi Mz (ad 24) d = nI (setOf 8 (gD h i d)) := by
  have hI := hN.2.2.1
  refine loop_QFU (fun q (Mx : Mem) w => f_X9_plan_L114 E k96 q Mx (ad 0) (nI i) v3 v4 (nI d) w) (fun j Mx => PlM ad M Mx ∧ (∀ k, k ≠ d → mi Mx (ad 24) k = mi M (ad 24) k) ∧ mi Mx (ad 24) d = nI (setOf j (gD h i d))) (fun y => ∃ Mz, y = k96 Mz (ad 0) (nI i) v3 v4 (nI (d + 1)) ∧ PlM ad M Mz ∧ (∀ k, k ≠ d → mi Mz (ad 24) k = mi M (ad 24) k) ∧ mi Mz (ad 24) d = nI (setOf 8 (gD h i d))) 8 (by decide) (wi M (ad 24) d 0) ⟨PlM_wi hI _ _, fun k hk => by rw [mi_wi, if_neg (fun z => hk z.2)], by rw [mi_wi, if_pos ⟨rfl, rfl⟩]; rfl⟩ ?_ ?_
  · intro q j Mx hj ⟨pl, h1, h2⟩
    refine Or.inl ?_
    show ∃ s', b_X9_plan_L114 E k96 (f_X9_plan_L114 E k96 q) Mx (ad 0) (nI i) v3 v4 (nI d) (nI j) = f_X9_plan_L114 E k96 q s' (ad 0) (nI i) v3 v4 (nI d) (nI (j + 1)) ∧ _
    unfold b_X9_plan_L114
    have mm := mayMeet_eq (T := d) hN ho hi hj (RO_pl pl r)
    rw [Nat.mod_eq_of_lt hd] at mm
    rw [if_neg (lt8 hj), gd_nI hd (by decide), mm, Option.bind_some, nm_v, ix_nI (by omega), n_24 hN, h2, shl1 (by omega), nI_1]
    refine ⟨_, rfl, pl.tr (PlM_wi hI _ _), fun k hk => by rw [mi_wi, if_neg (fun z => hk z.2)]; exact h1 k hk, ?_⟩
    rw [mi_wi, if_pos ⟨rfl, rfl⟩]
    show _ = nI (setOf j (gD h i d) ||| if gD h i d j then 2 ^ j else 0)
    unfold gD
    by_cases g : wantN h i j d ≤ wordN h (othersN h i j) d
    · rw [if_pos g, if_neg I10, decide_eq_true g, if_pos rfl, nI_or]
    · rw [if_neg g, if_pos rfl, decide_eq_false g, if_neg ft1]
      exact nI_or _ 0
  · intro q Mx ⟨pl, h1, h2⟩
    refine ⟨Mx, ?_, pl, h1, h2⟩
    show b_X9_plan_L114 E k96 (f_X9_plan_L114 E k96 q) Mx (ad 0) (nI i) v3 v4 (nI d) (nI 8) = _
    unfold b_X9_plan_L114
    rw [if_pos (by decide), nI_1]
theorem L96_sp (hN : Nm E (ad 50) (ad 0) ad) (r : RO ad M h) (ho : okP h) (hi : i < oP h) (v3 v4 : Int32) : ∃ Mz, f_X9_plan_L96 E FU M (ad 0) (nI i) v3 v4 0 = ((f_X9_setMay E Mz (ad 0) (nI 0)).bind fun x2 => f_X9_plan_L171 E FU x2 (ad 0) v3 v4 0) ∧ PlM ad M Mz ∧ GC ad Mz h i := by
  refine loop_QFU (fun q (Mx : Mem) w => f_X9_plan_L96 E q Mx (ad 0) (nI i) v3 v4 w) (fun d Mx => PlM ad M Mx ∧ ∀ d', d' < d → mi Mx (ad 24) d' = nI (setOf 8 (gD h i d'))) (fun y => ∃ Mz, y = ((f_X9_setMay E Mz (ad 0) (nI 0)).bind fun x2 => f_X9_plan_L171 E FU x2 (ad 0) v3 v4 0) ∧ PlM ad M Mz ∧ GC ad Mz h i) 24 (by decide) M ⟨PlM.rf, fun d hd => by omega⟩ ?_ ?_
  · intro q d Mx hd ⟨pl, hg⟩
    refine Or.inl ?_
    show ∃ s', b_X9_plan_L96 E (f_X9_plan_L96 E q) Mx (ad 0) (nI i) v3 v4 (nI d) = f_X9_plan_L96 E q s' (ad 0) (nI i) v3 v4 (nI (d + 1)) ∧ _
    unfold b_X9_plan_L96
    obtain ⟨Mz, e, p2, h1, h2⟩ := L114_sp hN (RO_pl pl r) ho hi (f_X9_plan_L96 E q) v3 v4 hd
    rw [if_neg (show ¬ (24 : Int32) ≤ nI d from nI_ge (a := d) (b := 24) hd (by decide)), gd_nI hd (by decide), ix_nI (by omega), n_24 hN, e]
    refine ⟨Mz, rfl, pl.tr p2, fun d' hd' => ?_⟩
    by_cases e2 : d' = d
    · subst e2; exact h2
    · rw [h1 d' e2]; exact hg d' (by omega)
  · intro q Mx ⟨pl, hg⟩
    refine ⟨Mx, ?_, pl, hg⟩
    show b_X9_plan_L96 E (f_X9_plan_L96 E q) Mx (ad 0) (nI i) v3 v4 (nI 24) = _
    unfold b_X9_plan_L96
    rw [if_pos (by decide)]
    rfl
/-- the first number of minutes that will do, 40 if none -/
theorem L171_sp (hN : Nm E (ad 50) (ad 0) ad) (hT : sT (oS h) ≤ 9999) (v3 : Int32) {R0 b : Nat} (hR : R0 < 256) (hb : ∀ d, d ≤ 40 → (b ≤ d ↔ can (gB h i) d 0 R0)) : ∀ f n (M : Mem), n ≤ b → n ≤ 40 → 41 - n < f → RO ad M h → GC ad M h i → TBL ad M h i n → ∃ Mz, f_X9_plan_L171 E f M (ad 0) v3 (nI R0) (nI n) = f_X9_plan_L200 E Mz (ad 0) v3 (nI R0) (nI (min b 40)) ∧ LgM ad M Mz ∧ TBL ad Mz h i (min b 40) := by
  intro f
  induction f with
  | zero => intro n M _ _ h; omega
  | succ f ih =>
    intro n M hnb hn hf r G ht
    show ∃ Mz, b_X9_plan_L171 E (f_X9_plan_L171 E f) M (ad 0) v3 (nI R0) (nI n) = _ ∧ _
    unfold b_X9_plan_L171
    by_cases e : n = 40
    · subst e
      rw [if_pos (by decide), show min b 40 = 40 by omega]
      exact ⟨M, rfl, LgM.rf, ht⟩
    · have im := isMay_eq (M := M) hN (d := 0) (R := R0) (by omega) hR
      rw [nI_0] at im
      rw [if_neg (show ¬ (40 : Int32) ≤ nI n from nI_ge (a := n) (b := 40) (by omega) (by decide)), im, Option.bind_some, nI_1]
      have h0 := ht 0 R0 (by omega) hR
      rw [Nat.sub_zero, ← hb n hn] at h0
      cases q : tb ad M 0 R0
      · rw [if_neg ft1, if_pos rfl]
        have hlt : n < b := by
          rcases Nat.lt_or_ge n b with l | l
          · exact l
          · have := h0.mpr l
            rw [q] at this
            exact absurd this ft1
        obtain ⟨Mz, ez, lz, tz⟩ := setMay_sp (n := n + 1) hN r G hT (by omega)
        rw [ez, Option.bind_some]
        obtain ⟨My, ey, ly, ty⟩ := ih (n + 1) Mz (by omega) (by omega) (by omega) (RO_pl lz.pl r) (GC_lg lz G) tz
        exact ⟨My, ey, lz.tr ly, ty⟩
      · rw [if_pos rfl, if_neg I10]
        have : b ≤ n := h0.mp q
        have e2 : min b 40 = n := by omega
        rw [e2]
        exact ⟨M, rfl, LgM.rf, ht⟩
end Al54
