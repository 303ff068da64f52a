/-! a house, as it is thought; the class's readers -/
section House34
/-- people, their kinds and weights, the stand, how many earlier stands, these, how many rows of each, the rows -/
abbrev Ho : Type := Nat × (Nat → Nat) × (Nat → Nat) × Sd × Nat × (Nat → Sd) × (Nat × Nat × Nat) × (Nat → Int32) × (Nat → Int32) × (Nat → Int32)
def oP (h : Ho) : Nat := h.1
def oK (h : Ho) : Nat → Nat := h.2.1
def oW (h : Ho) : Nat → Nat := h.2.2.1
def oS (h : Ho) : Sd := h.2.2.2.1
def oU (h : Ho) : Nat := h.2.2.2.2.1
def oL (h : Ho) : Nat → Sd := h.2.2.2.2.2.1
def oA (h : Ho) : Nat := h.2.2.2.2.2.2.1.1
def oB (h : Ho) : Nat := h.2.2.2.2.2.2.1.2.1
def oC (h : Ho) : Nat := h.2.2.2.2.2.2.1.2.2
def oX (h : Ho) : Nat → Int32 := h.2.2.2.2.2.2.2.1
def oY (h : Ho) : Nat → Int32 := h.2.2.2.2.2.2.2.2.1
def oZ (h : Ho) : Nat → Int32 := h.2.2.2.2.2.2.2.2.2
def okP (h : Ho) : Prop := oP h ≤ 6 ∧ (∀ i, i < oP h → oK h i < 6) ∧ (∀ i, i < oP h → oW h i ≤ 12) ∧ okS (oP h) (oS h)
def okH (h : Ho) : Prop := okP h ∧ sT (oS h) ≤ 9999 ∧ oU h ≤ 8 ∧ (∀ j, j < oU h → okS (oP h) (oL h j) ∧ sT (oL h j) ≤ 9999) ∧ oA h ≤ 6 ∧ oB h ≤ 6 ∧ oC h ≤ 6 ∧ ∀ r, r < oA h → ∃ s t, s < 8 ∧ t < 2 ∧ oX h (3 * r + 1) = nI s ∧ oX h (3 * r + 2) = nI t
/-- people and stand -/
def CO (ad : Nat → Nat) (M : Mem) (H : Nat) (h : Ho) : Prop := mi M (ad H) 0 = nI (oP h) ∧ (∀ i, i < oP h → mi M (ad (H + 1)) i = nI (oK h i)) ∧ (∀ i, i < oP h → mi M (ad (H + 2)) i = nI (oW h i)) ∧ CS ad M (H + 12) (oS h)
def CR (ad : Nat → Nat) (M : Mem) (R n w : Nat) (f : Nat → Int32) : Prop := mi M (ad R) 0 = nI n ∧ ∀ r c, r < n → c < w → mi M (ad (R + 1)) (4 * r + c) = f (w * r + c)
def PM (ad : Nat → Nat) (M : Mem) (H : Nat) (pi : Nat → Nat) : Prop := (∀ j, j < 8 → mr M (ad (H + 5)) j = ad (H + 16 + 4 * pi j) ∧ pi j < 8) ∧ ∀ i j, i < 8 → j < 8 → pi i = pi j → i = j
def CH (ad : Nat → Nat) (M : Mem) (H : Nat) (h : Ho) (pi : Nat → Nat) : Prop := CO ad M H h ∧ mi M (ad H) 5 = nI (oU h) ∧ CR ad M (H + 6) (oA h) 3 (oX h) ∧ CR ad M (H + 8) (oB h) 4 (oY h) ∧ CR ad M (H + 10) (oC h) 4 (oZ h) ∧ PM ad M H pi ∧ ∀ j, j < oU h → CS ad M (H + 16 + 4 * pi j) (oL h j)
/-! the answers of kinds -/
def worN (k pl t : Nat) : Nat := if k = 0 then 1 else if k = 1 then 2 else if k = 2 then (if 18 ≤ t then 0 else 1) else if k = 3 then (if pl = 0 then 1 else 2) else if k = 4 then t % 2 else if 18 ≤ t then 4 else 2
def wanN (k g t : Nat) : Nat := if k = 0 then 1 else if k = 1 then 2 else if k = 2 then 1 + g / 4 else if k = 3 then (if t % 2 = 1 then 4 else 2) else if k = 4 then (if g ≤ 5 then 0 else 1) else min (2 * (1 + g / 4)) 5
theorem ans2 (E E' : Env1) (M M' : Mem) (v : Nat) {k : Nat} (hk : k < 6) (x t : Int32) : f_X2_answer E M v (nI k) x t = f_X9_worthBy E' M' (nI k) t x := by
  unfold f_X2_answer f_X9_worthBy
  rcases (show k = 0 ∨ k = 1 ∨ k = 2 ∨ k = 3 ∨ k = 4 ∨ k = 5 by omega) with rfl | rfl | rfl | rfl | rfl | rfl <;> simp [show nI 0 = 0 from rfl, show nI 1 = 1 from rfl, show nI 2 = 2 from rfl, show nI 3 = 3 from rfl, show nI 4 = 4 from rfl, show nI 5 = 5 from rfl] <;> rfl
theorem jmin_l (E : Env1) (M : Mem) (a b : Int32) : jmin a b = f_X9_lesser E M b a := by
  unfold jmin f_X9_lesser
  by_cases h : b < a
  · rw [if_pos h]
    by_cases g : a ≤ b
    · exact absurd h (Int32.not_lt.mpr g)
    · rw [if_neg g]
  · rw [if_neg h, if_pos (Int32.not_lt.mp h)]
theorem ans6 (E E' : Env1) (M M' : Mem) (v : Nat) {k : Nat} (hk : k < 6) (x t : Int32) : f_X6_answer E M v (nI k) x t = f_X9_wantsBy E' M' (nI k) x t := by
  unfold f_X6_answer f_X9_wantsBy
  dsimp only [nm]
  rw [jmin_l E M]
  rcases (show k = 0 ∨ k = 1 ∨ k = 2 ∨ k = 3 ∨ k = 4 ∨ k = 5 by omega) with rfl | rfl | rfl | rfl | rfl | rfl <;> simp [show nI 0 = 0 from rfl, show nI 1 = 1 from rfl, show nI 2 = 2 from rfl, show nI 3 = 3 from rfl, show nI 4 = 4 from rfl, show nI 5 = 5 from rfl] <;> rfl
theorem wor_eq (E : Env1) (M : Mem) : ∀ {k pl t : Nat}, k < 6 → pl ≤ 9 → t < 24 → f_X9_worthBy E M (nI k) (nI t) (nI pl - 1) = nI (worN k pl t) := by
  unfold f_X9_worthBy
  have key : ∀ k, k < 6 → ∀ pl, pl < 10 → ∀ t, t < 24 → (if nI k = 1 then (2 : Int32) else if nI k = 2 then (if nI t < (18 : Int32) then (1 : Int32) else (0 : Int32)) else if nI k = 3 then (if nI pl - 1 = (-1 : Int32) then (1 : Int32) else (2 : Int32)) else if nI k = 4 then (if (nI t - nI t / (2 : Int32) * (2 : Int32)) = (1 : Int32) then (1 : Int32) else (0 : Int32)) else if nI k = 5 then (if nI t < (18 : Int32) then (2 : Int32) else (4 : Int32)) else (1 : Int32)) = nI (worN k pl t) := by decide +kernel
  intro k pl t hk hp ht
  exact key k hk pl (by omega) t ht
theorem wan_eq (E : Env1) (M : Mem) : ∀ {k g t : Nat}, k < 6 → g ≤ 12 → t < 24 → f_X9_wantsBy E M (nI k) (nI g) (nI t) = nI (wanN k g t) := by
  unfold f_X9_wantsBy f_X9_lesser
  dsimp only [nm]
  have key : ∀ k, k < 6 → ∀ g, g < 13 → ∀ t, t < 24 → (if nI k = 1 then (2 : Int32) else if nI k = 2 then (1 : Int32) + nI g / (4 : Int32) else if nI k = 3 then (if (nI t - nI t / (2 : Int32) * (2 : Int32)) = (1 : Int32) then (4 : Int32) else (2 : Int32)) else if nI k = 4 then (if (5 : Int32) < nI g then (1 : Int32) else (0 : Int32)) else if nI k = 5 then (if (2 : Int32) * ((1 : Int32) + nI g / (4 : Int32)) ≤ 5 then (2 : Int32) * ((1 : Int32) + nI g / (4 : Int32)) else 5) else (1 : Int32)) = nI (wanN k g t) := by decide +kernel
  intro k g t hk hp ht
  exact key k hk g (by omega) t ht
theorem wor_le (k pl t : Nat) : worN k pl t ≤ 4 := by
  unfold worN
  (repeat' split) <;> omega
theorem wan_le (k g t : Nat) : wanN k g t ≤ 5 + g := by
  unfold wanN
  (repeat' split) <;> omega
theorem rem24 {t : Nat} (h : t < 2 ^ 31) : nI t - nI t / (24 : Int32) * (24 : Int32) = nI (t % 24) := pk_rem (d := 24) h (by decide) (by decide)
/-! words -/
def wordN (h : Ho) (set T : Nat) : Nat := sumO (oP h) (fun j => if set.testBit j then worN (oK h j) (sP (oS h) j) (T % 24) else 0)
def othersN (h : Ho) (i k : Nat) : Nat := wo (setOf 6 (fun j => (sN (oS h) j).testBit k)) (2 ^ i)
def wantN (h : Ho) (i k T : Nat) : Nat := wanN (sS (oS h) k) (oW h i) (T % 24)
def meetB (h : Ho) (i k set T : Nat) : Bool := (sN (oS h) i).testBit k || decide (wantN h i k T ≤ wordN h set T)
variable {E : Env1} {ad : Nat → Nat} {M M1 : Mem} {H : Nat} {h : Ho}
theorem word_le (h : Ho) (set T : Nat) (hp : oP h ≤ 6) : wordN h set T ≤ 24 := by
  have := sum_le (f := fun j => if set.testBit j then worN (oK h j) (sP (oS h) j) (T % 24) else 0) (b := 4) (oP h) (fun i _ => by split; exact wor_le _ _ _; omega)
  unfold wordN
  omega
theorem worth_eq (hH : HN E ad H) (hS : SN E ad (H + 12)) {i T : Nat} (ho : okP h) (hi : i < oP h) (hT : T < 2 ^ 31) (c : CO ad M H h) : f_X0_worth E M (ad H) (nI i) (nI T) = some (nI (worN (oK h i) (sP (oS h) i) (T % 24))) := by
  have h6 : i < 6 := Nat.lt_of_lt_of_le hi ho.1
  unfold f_X0_worth
  rw [gd_nI h6 (by decide), ix_nI (by omega), hH.1, hH.2.2.1, hS.2.2, c.2.1 i hi, c.2.2.2.2.2.1 i h6, rem24 hT, ans2 E E M M _ (ho.2.1 i hi), wor_eq E M (ho.2.1 i hi) (ho.2.2.2.2.2.2.2.1 i) (Nat.mod_lt _ (by decide))]
theorem wanted_eq (hH : HN E ad H) (hS : SN E ad (H + 12)) {i k T : Nat} (ho : okP h) (hi : i < oP h) (hk : k < 8) (hT : T < 2 ^ 31) (c : CO ad M H h) : f_X0_wanted E M (ad H) (nI i) (nI k) (nI T) = some (nI (wantN h i k T)) := by
  have h6 : i < 6 := Nat.lt_of_lt_of_le hi ho.1
  unfold f_X0_wanted
  rw [gd_nI hk (by decide), gd_nI h6 (by decide), ix_nI (by omega), ix_nI (by omega), hH.2.1, hH.2.2.1, hS.1, c.2.2.1 i hi, c.2.2.2.1 k hk, rem24 hT, ans6 E E M M _ (ho.2.2.2.2.2.1 k hk), wan_eq E M (ho.2.2.2.2.2.1 k hk) (ho.2.2.1 i hi) (Nat.mod_lt _ (by decide))]
  rfl
theorem others_eq (hH : HN E ad H) (hS : SN E ad (H + 12)) {i k : Nat} (ho : okP h) (hi : i < 6) (hk : k < 8) (c : CO ad M H h) : f_X0_othersWhoKnow E M (ad H) (nI i) (nI k) = some (nI (othersN h i k)) := by
  unfold f_X0_othersWhoKnow
  rw [hH.2.2.1, knowers_eq hS (by omega) ho.2.2.2.2.2.2.1 c.2.2.2.2.1, Option.bind_some, shl1 (by omega), nI_wo]
  rfl
theorem wordOf_eq (hH : HN E ad H) (hS : SN E ad (H + 12)) {set T : Nat} (ho : okP h) (hs : set < 2 ^ 31) (hT : T < 2 ^ 31) (c : CO ad M H h) : f_X0_wordOf E M (ad H) (nI set) (nI T) = some (nI (wordN h set T)) := by
  have hp : oP h ≤ 6 := ho.1
  unfold f_X0_wordOf
  obtain ⟨n, e⟩ := loop_FU (fun n (a : Int32) v => f_X0_wordOf_L5 E M n (ad H) (nI set) (nI T) a v) (fun j => nI (sumO j (fun j => if set.testBit j then worN (oK h j) (sP (oS h) j) (T % 24) else 0))) (oP h) (by omega) (by
    intro n j hj
    show b_X0_wordOf_L5 E M (f_X0_wordOf_L5 E M n) (ad H) (nI set) (nI T) _ (nI j) = _
    unfold b_X0_wordOf_L5
    rw [c.1, if_neg (le_n hj (by omega)), if_neg (lt6 (by omega)), worth_eq hH hS ho hj hT c, Option.bind_some, nI_1, nI_add]
    simp only [bitN hs (show j < 32 by omega)]
    show _ = f_X0_wordOf_L5 E M n (ad H) (nI set) (nI T) (nI (sumO j _ + if set.testBit j then worN (oK h j) (sP (oS h) j) (T % 24) else 0)) _
    cases hb : set.testBit j
    · rw [if_neg (by decide), if_neg (by decide)]; rfl
    · rw [if_pos rfl, if_pos rfl])
  refine e.trans ?_
  show b_X0_wordOf_L5 E M (f_X0_wordOf_L5 E M n) (ad H) (nI set) (nI T) _ (nI (oP h)) = _
  unfold b_X0_wordOf_L5
  rw [c.1, if_pos (nI_le (Nat.le_refl _) (by omega))]
  rfl
theorem meet_eq (hH : HN E ad H) (hS : SN E ad (H + 12)) {i k set T : Nat} (ho : okP h) (hi : i < oP h) (hk : k < 8) (hs : set < 2 ^ 31) (hT : T < 2 ^ 31) (c : CO ad M H h) : f_X0_couldMeet E M (ad H) (nI i) (nI k) (nI set) (nI T) = some (if meetB h i k set T then 1 else 0) := by
  have h6 : i < 6 := Nat.lt_of_lt_of_le hi ho.1
  unfold f_X0_couldMeet
  rw [hH.2.2.1, isKnown_eq hS h6 (by omega) (ho.2.2.2.2.2.2.1 i) (c.2.2.2.2.1 i h6), Option.bind_some, wordOf_eq hH hS ho hs hT c, Option.bind_some, wanted_eq hH hS ho hi hk hT c, Option.bind_some]
  unfold meetB
  cases (sN (oS h) i).testBit k
  · rw [if_pos (by decide), Bool.false_or]
    have e := nI_ltI (a := wordN h set T) (b := wantN h i k T) (by have := word_le h set T ho.1; omega) (by have := wan_le (sS (oS h) k) (oW h i) (T % 24); have := ho.2.2.1 i hi; unfold wantN; omega)
    by_cases g : wantN h i k T ≤ wordN h set T
    · rw [if_neg (fun z => by have := e.mp z; omega), decide_eq_true g]; rfl
    · rw [if_pos (e.mpr (by omega)), decide_eq_false g]; rfl
  · rw [if_neg (by decide), Bool.true_or]; rfl
theorem wo_ltp {a b n : Nat} (h : a < 2 ^ n) (hn : n ≤ 31) : wo a b < 2 ^ 31 := Nat.lt_of_lt_of_le (wo_lt h) (Nat.pow_le_pow_right (by decide) hn)
theorem others_lt (h : Ho) (i k : Nat) : othersN h i k < 2 ^ 31 := wo_ltp (set_lt 6 _) (by decide)
/-- another stand -/
def withS (h : Ho) (s : Sd) : Ho := (oP h, oK h, oW h, s, h.2.2.2.2)
theorem okP_withS {s : Sd} (ho : okP h) (hs : okS (oP h) s) : okP (withS h s) := ⟨ho.1, ho.2.1, ho.2.2.1, hs⟩
theorem CO_withS {s : Sd} (hd : ∀ n, H ≤ n → n < H + 3 → ∀ k, mi M1 (ad n) k = mi M (ad n) k) (c : CO ad M H h) (hs : CS ad M1 (H + 12) s) : CO ad M1 H (withS h s) := ⟨(hd H (by omega) (by omega) 0).trans c.1, fun i hi => (hd (H + 1) (by omega) (by omega) i).trans (c.2.1 i hi), fun i hi => (hd (H + 2) (by omega) (by omega) i).trans (c.2.2.1 i hi), hs⟩
/-- what an introduction makes of the stand -/
def meetS (h : Ho) (i k : Nat) : Sd := passS (if meetB h i k (othersN h i k) (sT (oS h)) then learnS (oS h) i k else oS h)
theorem okS_meet {i k : Nat} (ho : okP h) (hi : i < oP h) (hk : k < 8) (ht : sT (oS h) + 1 < 20000) : okS (oP h) (meetS h i k) := by
  unfold meetS
  split
  · exact okS_pass (okS_learn ho.2.2.2 hi hk) ht
  · exact okS_pass ho.2.2.2 ht
theorem introduce_sp (hI : ∀ n n', ad n = ad n' → n = n') (hH : HN E ad H) (hS : SN E ad (H + 12)) {i k : Nat} (ho : okP h) (hi : i < oP h) (hk : k < 8) (c : CO ad M H h) : ∃ M1, f_X0_introduce E M (ad H) (nI i) (nI k) = some M1 ∧ CS ad M1 (H + 12) (meetS h i k) ∧ Off ad M M1 (H + 12) (H + 16) := by
  have h6 : i < 6 := Nat.lt_of_lt_of_le hi ho.1
  have hT : sT (oS h) < 2 ^ 31 := by have := ho.2.2.2.1; omega
  unfold f_X0_introduce
  rw [others_eq hH hS ho h6 hk c, Option.bind_some, hH.2.2.1, c.2.2.2.2.2.2.2, meet_eq hH hS ho hi hk (others_lt _ _ _) hT c, Option.bind_some]
  unfold meetS
  cases meetB h i k (othersN h i k) (sT (oS h))
  · rw [if_pos (by decide), if_neg (by decide)]
    obtain ⟨M1, e, g, o⟩ := passMinute_sp hI hS ho.2.2.2 c.2.2.2
    rw [e]
    exact ⟨M1, rfl, g, o⟩
  · rw [if_neg (by decide), if_pos rfl]
    obtain ⟨M1, e, g, o⟩ := learn_sp hI hS h6 hk c.2.2.2
    obtain ⟨M2, e2, g2, o2⟩ := passMinute_sp hI hS (okS_learn ho.2.2.2 hi hk) g
    rw [e, Option.bind_some, e2]
    exact ⟨M2, rfl, g2, o.tr o2⟩
end House34
