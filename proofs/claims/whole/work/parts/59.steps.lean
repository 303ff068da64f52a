/-! the class reads a token -/
section Al59
variable {E : Env1} {ad : Nat → Nat} {M M1 M2 Mt : Mem} {B : Nat → Nat} {t : Nat}
def tE (B : Nat → Nat) (t s : Nat) : Nat := if t ≤ s then s else if B s = 59 then s + 1 else if 97 ≤ B s ∧ B s ≤ 122 then rn B t 97 122 s else if 48 ≤ B s ∧ B s ≤ 57 then rn B t 48 57 s else s + 1
def tS (B : Nat → Nat) (t s : Nat) : Int32 := if t ≤ s then 0 else if B s = 59 then 3 else if 97 ≤ B s ∧ B s ≤ 122 then (if wdI B t s = -1 then 4 else 1) else if 48 ≤ B s ∧ B s ≤ 57 then (if rn B t 48 57 s - s ≤ 2 then 2 else 4) else 4
def tV (B : Nat → Nat) (t s : Nat) : Int32 := if t ≤ s then 0 else if B s = 59 then 0 else if 97 ≤ B s ∧ B s ≤ 122 then wdI B t s else if 48 ≤ B s ∧ B s ≤ 57 then nI (nv B s (rn B t 48 57 s - s)) else 0
def Tk (ad : Nat → Nat) (M M1 : Mem) : Prop := (∀ q k, ¬ (q = ad 54 ∧ (k = 2 ∨ k = 3 ∨ k = 4 ∨ k = 5)) → mi M1 q k = mi M q k) ∧ M1.2 = M.2
theorem Tk.tr (a : Tk ad M M1) (b : Tk ad M1 M2) : Tk ad M M2 := ⟨fun q k h => (b.1 q k h).trans (a.1 q k h), b.2.trans a.2⟩
theorem Tk_wi {k : Nat} {v : Int32} (h : k = 2 ∨ k = 3 ∨ k = 4 ∨ k = 5) : Tk ad M (wi M (ad 54) k v) := ⟨fun q j z => by rw [mi_wi, if_neg (fun (y : q = ad 54 ∧ j = k) => z ⟨y.1, by rw [y.2]; exact h⟩)], rfl⟩
theorem T8_tk (hI : ∀ n n', ad n = ad n' → n = n') (a : Tk ad M M1) (T : T8 ad M B t) : T8 ad M1 B t := ⟨T.1, (a.1 _ _ (fun z => by have := z.2; omega)).trans T.2.1, fun i hi => ⟨(a.1 _ _ (fun z => by have := hI _ _ z.1; omega)).trans (T.2.2 i hi).1, (T.2.2 i hi).2⟩⟩
theorem nIm1 {a : Nat} (h : a < 2 ^ 31) : ¬ nI a = (-1 : Int32) := fun z => by
  have := nI_pos' h
  rw [z] at this
  exact absurd this (by decide)
theorem next8 (hN : Nm E (ad 50) (ad 0) ad) (T : T8 ad M B t) {q : Nat} (hq : q ≤ t) (h3 : mi M (ad 54) 3 = nI q) : ∃ Mt, f_X7_nextToken E M (ad 54) = some Mt ∧ Tk ad M Mt ∧ mi Mt (ad 54) 2 = nI (sk B t q) ∧ mi Mt (ad 54) 3 = nI (tE B t (sk B t q)) ∧ mi Mt (ad 54) 4 = tS B t (sk B t q) ∧ mi Mt (ad 54) 5 = tV B t (sk B t q) := by
  have hI := hN.2.2.1
  have h150 := T.1
  have hs : sk B t q ≤ t := sk_le hq
  have e1 : f_X7_behindRun E M (ad 54) (nI q) (32 : Int32) (32 : Int32) = some (nI (sk B t q)) := run8 (lo := 32) (hi := 32) hN T (by decide) (by decide) hq
  unfold f_X7_nextToken
  rw [h3, e1, Option.bind_some]
  generalize sk B t q = s at hs
  have m2 : mi (wi M (ad 54) 2 (nI s)) (ad 54) 2 = nI s := by rw [mi_wi, if_pos ⟨rfl, rfl⟩]
  rw [m2, nI_1]
  have ka : Tk ad M (wi (wi (wi M (ad 54) 2 (nI s)) (ad 54) 3 (nI (s + 1))) (ad 54) 5 0) := (Tk_wi (by omega)).tr ((Tk_wi (by omega)).tr (Tk_wi (by omega)))
  have a2 : mi (wi (wi (wi M (ad 54) 2 (nI s)) (ad 54) 3 (nI (s + 1))) (ad 54) 5 0) (ad 54) 2 = nI s := by simp [mi_wi]
  have a3 : mi (wi (wi (wi M (ad 54) 2 (nI s)) (ad 54) 3 (nI (s + 1))) (ad 54) 5 0) (ad 54) 3 = nI (s + 1) := by simp [mi_wi]
  have a5 : mi (wi (wi (wi M (ad 54) 2 (nI s)) (ad 54) 3 (nI (s + 1))) (ad 54) 5 0) (ad 54) 5 = 0 := by simp [mi_wi]
  generalize wi (wi (wi M (ad 54) 2 (nI s)) (ad 54) 3 (nI (s + 1))) (ad 54) 5 0 = Ma at ka a2 a3 a5 ⊢
  have Ta := T8_tk hI ka T
  rw [a2, byteAt_sp hN Ta (by omega), Option.bind_some]
  unfold tE tS tV
  by_cases l : t ≤ s
  · rw [if_neg (show ¬ s < t by omega), if_pos rfl, nm_v, if_pos l, if_pos l, if_pos l]
    refine ⟨_, rfl, ka.tr ((Tk_wi (by omega)).tr (Tk_wi (by omega))), ?_, ?_, ?_, ?_⟩ <;> simp [mi_wi, a2, a5]
  · have hB := (Ta.2.2 s (by omega)).2
    have w1 : f_X8_within E Ma (nI (B s)) (97 : Int32) (122 : Int32) = if 97 ≤ B s ∧ B s ≤ 122 then 1 else 0 := wi_nI E Ma (b := 97) (c := 122) (by omega) (by decide) (by decide)
    have w2 : f_X8_within E Ma (nI (B s)) (48 : Int32) (57 : Int32) = if 48 ≤ B s ∧ B s ≤ 57 then 1 else 0 := wi_nI E Ma (b := 48) (c := 57) (by omega) (by decide) (by decide)
    have i59 : (nI (B s) = (59 : Int32)) = (B s = 59) := nIe (b := 59) (by omega) (by decide)
    rw [if_pos (show s < t by omega), if_neg (nIm1 (by omega)), w1, w2, if_neg l, if_neg l, if_neg l]
    simp only [i59]
    by_cases g1 : B s = 59
    · rw [if_pos g1, if_pos g1, if_pos g1, if_pos g1, nm_v]
      refine ⟨_, rfl, ka.tr (Tk_wi (by omega)), ?_, ?_, ?_, ?_⟩ <;> simp [mi_wi, a2, a3, a5]
    · rw [if_neg g1, if_neg g1, if_neg g1, if_neg g1]
      by_cases g2 : 97 ≤ B s ∧ B s ≤ 122
      · have hr : f_X7_behindRun E Ma (ad 54) (nI s) (97 : Int32) (122 : Int32) = some (nI (rn B t 97 122 s)) := run8 (lo := 97) (hi := 122) hN Ta (by decide) (by decide) hs
        rw [if_pos g2, if_neg I10, if_pos g2, if_pos g2, if_pos g2, hr, Option.bind_some, nm_v]
        have kb : Tk ad Ma (wi Ma (ad 54) 3 (nI (rn B t 97 122 s))) := Tk_wi (by omega)
        have wr := word8 hN (T8_tk hI kb Ta) hs (by simp [mi_wi, a2]) (by simp [mi_wi])
        rw [wr, Option.bind_some, nm_v]
        refine ⟨_, rfl, ka.tr (kb.tr ((Tk_wi (by omega)).tr (Tk_wi (by omega)))), ?_, ?_, ?_, ?_⟩ <;> simp [mi_wi, a2]
      · rw [if_neg g2, if_pos rfl, if_neg g2, if_neg g2, if_neg g2]
        by_cases g3 : 48 ≤ B s ∧ B s ≤ 57
        · have hr : f_X7_behindRun E Ma (ad 54) (nI s) (48 : Int32) (57 : Int32) = some (nI (rn B t 48 57 s)) := run8 (lo := 48) (hi := 57) hN Ta (by decide) (by decide) hs
          have he : rn B t 48 57 s ≤ t := rnF_le _ _ _ _ _ _ hs
          have hse : s + 1 ≤ rn B t 48 57 s := by
            have : rn B t 48 57 s = rnF B t 48 57 150 (s + 1) := if_pos ⟨by omega, g3⟩
            rw [this]
            exact rnF_ge _ _ _ _ _ _
          rw [if_pos g3, if_neg I10, if_pos g3, if_pos g3, if_pos g3, hr, Option.bind_some, nm_v]
          have b2 : mi (wi Ma (ad 54) 3 (nI (rn B t 48 57 s))) (ad 54) 2 = nI s := by simp [mi_wi, a2]
          have b3 : mi (wi Ma (ad 54) 3 (nI (rn B t 48 57 s))) (ad 54) 3 = nI (rn B t 48 57 s) := by simp [mi_wi]
          have l2 : (nI (rn B t 48 57 s - s) ≤ (2 : Int32)) = (rn B t 48 57 s - s ≤ 2) := propext (nI_leI (b := 2) (by omega) (by decide))
          rw [b2, b3, nm_v, pk_sub (by omega)]
          simp only [l2]
          have kb : Tk ad Ma (wi (wi Ma (ad 54) 3 (nI (rn B t 48 57 s))) (ad 54) 4 (if rn B t 48 57 s - s ≤ 2 then 2 else 4)) := (Tk_wi (by omega)).tr (Tk_wi (by omega))
          have nr := num8v hN (T8_tk hI kb Ta) (s := s) (e := rn B t 48 57 s) (by omega) he (fun j h1 h2 => (rnF_in _ _ _ _ _ _ j h1 h2).2.1) (by simp [mi_wi, a2]) (by simp [mi_wi])
          rw [nr, Option.bind_some]
          refine ⟨_, rfl, ka.tr (kb.tr (Tk_wi (by omega))), ?_, ?_, ?_, ?_⟩ <;> simp [mi_wi, a2]
        · rw [if_neg g3, if_pos rfl, if_neg g3, if_neg g3, if_neg g3, nm_v]
          refine ⟨_, rfl, ka.tr (Tk_wi (by omega)), ?_, ?_, ?_, ?_⟩ <;> simp [mi_wi, a2, a3, a5]
/-! what a token is -/
theorem wdI_0 {s : Nat} (h : rn B t 97 122 s - s = 0) : wdI B t s = -1 := by
  unfold wdI
  rw [h]
  simp
theorem tok_word {s : Nat} (h : ¬ wdI B t s = -1) : s < t ∧ tS B t s = 1 ∧ tV B t s = wdI B t s ∧ tE B t s = rn B t 97 122 s ∧ s < rn B t 97 122 s := by
  have hl : s < rn B t 97 122 s := by
    rcases Nat.lt_or_ge s (rn B t 97 122 s) with l | l
    · exact l
    · exact absurd (wdI_0 (by omega)) h
  obtain ⟨g1, g2⟩ := rnF_in B t 97 122 151 s s (Nat.le_refl _) hl
  have n1 : ¬ t ≤ s := by omega
  have n2 : ¬ B s = 59 := by omega
  refine ⟨g1, ?_, ?_, ?_, hl⟩
  · unfold tS; rw [if_neg n1, if_neg n2, if_pos g2, if_neg h]
  · unfold tV; rw [if_neg n1, if_neg n2, if_pos g2]
  · unfold tE; rw [if_neg n1, if_neg n2, if_pos g2]
theorem tok_nword {s : Nat} (h : wdI B t s = -1) : ¬ tS B t s = 1 := by
  unfold tS
  rw [if_pos h]
  (repeat' split) <;> decide
theorem tok_num {s : Nat} (h : 1 ≤ rn B t 48 57 s - s ∧ rn B t 48 57 s - s ≤ 2) : s < t ∧ tS B t s = 2 ∧ tV B t s = nI (nv B s (rn B t 48 57 s - s)) ∧ tE B t s = rn B t 48 57 s := by
  obtain ⟨g1, g2⟩ := rnF_in B t 48 57 151 s s (Nat.le_refl _) (show s < rn B t 48 57 s by omega)
  have n1 : ¬ t ≤ s := by omega
  have n2 : ¬ B s = 59 := by omega
  have n3 : ¬ (97 ≤ B s ∧ B s ≤ 122) := by omega
  refine ⟨g1, ?_, ?_, ?_⟩
  · unfold tS; rw [if_neg n1, if_neg n2, if_neg n3, if_pos g2, if_pos h.2]
  · unfold tV; rw [if_neg n1, if_neg n2, if_neg n3, if_pos g2]
  · unfold tE; rw [if_neg n1, if_neg n2, if_neg n3, if_pos g2]
theorem tok_nnum {s : Nat} (hs : s ≤ t) (h : ¬ (1 ≤ rn B t 48 57 s - s ∧ rn B t 48 57 s - s ≤ 2)) : ¬ tS B t s = 2 := by
  unfold tS
  by_cases l : t ≤ s
  · rw [if_pos l]; decide
  · rw [if_neg l]
    by_cases g1 : B s = 59
    · rw [if_pos g1]; decide
    · rw [if_neg g1]
      by_cases g2 : 97 ≤ B s ∧ B s ≤ 122
      · rw [if_pos g2]; split <;> decide
      · rw [if_neg g2]
        by_cases g3 : 48 ≤ B s ∧ B s ≤ 57
        · have hse : s + 1 ≤ rn B t 48 57 s := by
            have : rn B t 48 57 s = rnF B t 48 57 150 (s + 1) := if_pos ⟨by omega, g3⟩
            rw [this]
            exact rnF_ge _ _ _ _ _ _
          rw [if_pos g3, if_neg (fun z => h ⟨by omega, z⟩)]; decide
        · rw [if_neg g3]; decide
theorem tok_end {s : Nat} (h : s < t ∧ B s = 59) : tS B t s = 3 ∧ tE B t s = s + 1 := by
  have n1 : ¬ t ≤ s := by omega
  refine ⟨?_, ?_⟩
  · unfold tS; rw [if_neg n1, if_pos h.2]
  · unfold tE; rw [if_neg n1, if_pos h.2]
theorem tok_nend {s : Nat} (h : ¬ (s < t ∧ B s = 59)) : ¬ tS B t s = 3 := by
  unfold tS
  by_cases l : t ≤ s
  · rw [if_pos l]; decide
  · rw [if_neg l, if_neg (fun z => h ⟨by omega, z⟩)]
    (repeat' split) <;> decide
theorem tok_fin {s : Nat} (h : t ≤ s) : tS B t s = 0 := if_pos h
theorem tok_nfin {s : Nat} (h : ¬ t ≤ s) : ¬ tS B t s = 0 := by
  unfold tS
  rw [if_neg h]
  (repeat' split) <;> decide
theorem pn_some {lo hi : Int32} {q v e : Nat} (hq : q ≤ t) (h : pn B t lo hi q = some (v, e)) : tS B t (sk B t q) = 2 ∧ lo ≤ tV B t (sk B t q) ∧ tV B t (sk B t q) ≤ hi ∧ tV B t (sk B t q) = nI v ∧ tE B t (sk B t q) = e ∧ q < e ∧ e ≤ t ∧ lo ≤ nI v ∧ nI v ≤ hi := by
  unfold pn at h
  split at h
  · rename_i g
    obtain ⟨rfl, rfl⟩ := Prod.mk.inj (Option.some.inj h)
    obtain ⟨t1, t2, t3, t4⟩ := tok_num g.1
    have h1 := sk_ge B t q
    have h2 : rn B t 48 57 (sk B t q) ≤ t := rnF_le _ _ _ _ _ _ (sk_le hq)
    refine ⟨t2, by rw [t3]; exact g.2.1, by rw [t3]; exact g.2.2, t3, t4, by omega, h2, g.2.1, g.2.2⟩
  · cases h
theorem pn_none {lo hi : Int32} {q : Nat} (hq : q ≤ t) (h : pn B t lo hi q = none) : ¬ (tS B t (sk B t q) = 2 ∧ lo ≤ tV B t (sk B t q) ∧ tV B t (sk B t q) ≤ hi) := by
  intro z
  unfold pn at h
  split at h
  · cases h
  · rename_i g
    by_cases g1 : 1 ≤ rn B t 48 57 (sk B t q) - sk B t q ∧ rn B t 48 57 (sk B t q) - sk B t q ≤ 2
    · have t3 := (tok_num g1).2.2.1
      rw [t3] at z
      exact g ⟨g1, z.2⟩
    · exact tok_nnum (sk_le hq) g1 z.1
/-! a token taken -/
def nmW (v : Nat) : Nat := if v = 0 then 8 else if v = 3 then 1 else if v = 5 then 1 else 2
def lowW (v g : Nat) : Int32 := if v = 5 then 1 else if v = 1 then (if g = 1 then 1 else 0) else 0
def highW (v g P : Nat) : Int32 := if v = 0 then 5 else if v = 1 then (if g = 0 then 5 else 12) else if v = 2 then (if g = 0 then nI P - 1 else 7) else if v = 3 then 6 else if v = 4 then (if g = 0 then nI P - 1 else 8) else 99
theorem nm8 {v : Nat} (hv : v < 6) : f_X7_numbersOf E M (nI v) = nI (nmW v) := by
  have : ∀ v, v < 6 → (if nI v = 0 then (8 : Int32) else if nI v = 3 then (1 : Int32) else if nI v = 5 then (1 : Int32) else (2 : Int32)) = nI (nmW v) := by unfold nmW; decide
  exact this v hv
theorem low8 {v g : Nat} (hv : v < 6) (hg : g < 9) (h6 : mi Mt (ad 54) 6 = nI v) (h7 : mi Mt (ad 54) 7 = nI g) : f_X7_lowest E Mt (ad 54) = lowW v g := by
  unfold f_X7_lowest
  rw [h6, h7, nm_v]
  have : ∀ v, v < 6 → ∀ g, g < 9 → (if (if nI v = (5 : Int32) then (1 : Int32) else if nI v = (1 : Int32) then if nI g = (1 : Int32) then (1 : Int32) else (0 : Int32) else (0 : Int32)) = 0 then (0 : Int32) else (1 : Int32)) = lowW v g := by unfold lowW; decide +kernel
  exact this v hv g hg
theorem high8 {v g P : Nat} (hv : v < 6) (hg : g < 9) (h6 : mi Mt (ad 54) 6 = nI v) (h7 : mi Mt (ad 54) 7 = nI g) : f_X7_highest E Mt (ad 54) (nI P) = highW v g P := by
  unfold f_X7_highest highW
  rw [h6, h7]
  simp only [nIe0 (show g < 2 ^ 31 by omega)]
  rcases (show v = 0 ∨ v = 1 ∨ v = 2 ∨ v = 3 ∨ v = 4 ∨ v = 5 by omega) with rfl | rfl | rfl | rfl | rfl | rfl <;> rfl
theorem tnum8 (hN : Nm E (ad 50) (ad 0) ad) {v g P : Nat} {S V : Int32} (hv : v < 6) (hg : g < nmW v) (h6 : mi Mt (ad 54) 6 = nI v) (h7 : mi Mt (ad 54) 7 = nI g) (h4 : mi Mt (ad 54) 4 = S) (h5 : mi Mt (ad 54) 5 = V) (hP : mi Mt (ad 200) 0 = nI P) : f_X7_takes E Mt (ad 54) (ad 200) = if S = 2 ∧ lowW v g ≤ V ∧ V ≤ highW v g P then some (1, wi (wi Mt (ad 57) g V) (ad 54) 7 (nI (g + 1))) else some (0, Mt) := by
  have hI := hN.2.2.1
  have hg8 : g < 8 := by unfold nmW at hg; (repeat' split at hg) <;> omega
  have hn9 : nmW v < 9 := by unfold nmW; (repeat' split) <;> omega
  have d : ¬ ad 54 = ad 57 := fun z => by have := hI _ _ z; omega
  have w7 : f_X8_within E Mt (nI g) (0 : Int32) (7 : Int32) = if 0 ≤ g ∧ g ≤ 7 then 1 else 0 := wi_nI E Mt (b := 0) (c := 7) (by omega) (by decide) (by decide)
  unfold f_X7_takes f_X7_takesNumber
  rw [h6, if_neg (nIm1 (by omega)), nm8 hv, h7, if_neg (nI_ge (a := g) (b := nmW v) hg (by omega)), h4, h5, hP, low8 hv (by omega) h6 h7, high8 hv (by omega) h6 h7, nm_v, w7, if_pos (show 0 ≤ g ∧ g ≤ 7 by omega), if_neg I10, gd_nI hg8 (by decide), ix_nI (by omega), n_57 hN, nm_v, mi_wi, if_neg (show ¬ (ad 54 = ad 57 ∧ 7 = g) from fun z => d z.1), h7, nI_1, within_eq]
  by_cases z1 : S = 2
  · rw [if_pos z1]
    by_cases z2 : lowW v g ≤ V ∧ V ≤ highW v g P
    · rw [if_pos z2, if_neg I10, if_neg I10, if_pos ⟨z1, z2⟩]
      rfl
    · rw [if_neg z2, if_pos rfl, if_pos rfl, if_neg (fun y => z2 y.2)]
      rfl
  · rw [if_neg z1, if_pos rfl, if_neg (fun y => z1 y.1)]
    rfl
theorem tend8 {v : Nat} {S : Int32} (hv : v < 6) (h6 : mi Mt (ad 54) 6 = nI v) (h7 : mi Mt (ad 54) 7 = nI (nmW v)) (h4 : mi Mt (ad 54) 4 = S) : f_X7_takes E Mt (ad 54) (ad 200) = if S = 3 then ((f_X7_settle E Mt (ad 54) (ad 200)).bind fun x4 => some ((1 : Int32), wi (wi x4 (ad 54) 6 (-1 : Int32)) (ad 54) 9 ((mi (wi x4 (ad 54) 6 (-1 : Int32)) (ad 54) 9) + (1 : Int32)))) else some (0, Mt) := by
  have hn9 : nmW v < 9 := by unfold nmW; (repeat' split) <;> omega
  unfold f_X7_takes
  rw [h6, if_neg (nIm1 (by omega)), nm8 hv, h7, if_pos (nI_le (Nat.le_refl _) (by omega)), h4]
theorem tbeg8 {S V : Int32} {k P : Nat} (hk : k < 2 ^ 31) (hP6 : P ≤ 6) (h6 : mi Mt (ad 54) 6 = -1) (h9 : mi Mt (ad 54) 9 = nI k) (h4 : mi Mt (ad 54) 4 = S) (h5 : mi Mt (ad 54) 5 = V) (hP : mi Mt (ad 200) 0 = nI P) : f_X7_takes E Mt (ad 54) (ad 200) = if S = 1 ∧ (V = 0 ↔ k = 0) ∧ ¬ (V = 1 ∧ P = 6) then some (1, wi (wi Mt (ad 54) 6 V) (ad 54) 7 0) else some (0, Mt) := by
  have p6 : (nI P < (6 : Int32)) = (P < 6) := propext (nI_ltI (b := 6) (by omega) (by decide))
  unfold f_X7_takes f_X7_begins
  rw [h6, if_pos rfl, h4, h5, h9, hP]
  simp only [nm_v, nIe0 hk, p6]
  by_cases z1 : S = 1
  · by_cases z2 : V = 0
    · by_cases z3 : k = 0
      · simp [z1, z2, z3]
      · simp [z1, z2, z3]
    · by_cases z3 : k = 0
      · simp [z1, z2, z3]
      · by_cases z4 : V = 1
        · by_cases z5 : P < 6
          · simp [z1, z2, z3, z4, z5, show ¬ P = 6 by omega]
          · simp [z1, z2, z3, z4, z5, show P = 6 by omega]
        · simp [z1, z2, z3, z4]
  · simp [z1]
end Al59
