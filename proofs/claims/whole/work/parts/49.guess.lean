/-! whom one may know -/
section Al49
variable {E : Env1} {x m : Nat} {ad : Nat → Nat} {M : Mem} {h : Ho}
def sgB (set s t : Int32) : Bool := decide (set &&& (((2 : Int32) * ((1 : Int32) <<< (s &&& 31))) - (1 : Int32)) = if t = (1 : Int32) then ((1 : Int32) <<< (s &&& 31)) - (1 : Int32) else ((2 : Int32) * ((1 : Int32) <<< (s &&& 31))) - (1 : Int32))
theorem sgB_ref : ∀ set, set < 256 → ∀ s, s < 8 → ∀ t, t < 2 → sgB (nI set) (nI s) (nI t) = (decide (((1 : Int32) <<< (nI s &&& 31) - 1) &&& (nI set ^^^ (-1 : Int32)) = 0) && decide ((if ((nI set >>> (nI s &&& 31)) &&& (1 : Int32)) = (1 : Int32) then (1 : Int32) else (0 : Int32)) = if nI t = 0 then (1 : Int32) else 0)) := by
  unfold sgB
  decide +kernel
def sgR (X : Nat → Int32) (a : Int32) (set : Nat) (r : Nat) : Bool := !decide (X (3 * r) = a) || sgB (nI set) (X (3 * r + 1)) (X (3 * r + 2))
def sgN (X : Nat → Int32) (a : Int32) (set : Nat) : Nat → Bool
  | 0 => true
  | n + 1 => sgN X a set n && sgR X a set n
theorem sgN_f {X : Nat → Int32} {a : Int32} {set j : Nat} (hb : sgR X a set j = false) : ∀ n, j < n → sgN X a set n = false := by
  intro n
  induction n with
  | zero => intro h; omega
  | succ n ih =>
    intro h
    show (sgN X a set n && sgR X a set n) = false
    by_cases e : j = n
    · subst e; rw [hb, Bool.and_false]
    · rw [ih (by omega), Bool.false_and]
theorem fitsS (hH : HN E ad 100) (hW : WN E ad 106) {n set : Nat} {X : Nat → Int32} {a : Int32} (hn : n ≤ 6) (c : CR ad M 106 n 3 X) : f_X0_fitsSights E M (ad 100) a (nI set) = some (if sgN X a set n then 1 else 0) := by
  unfold f_X0_fitsSights
  refine loop_QFU (fun q (_ : Unit) w => f_X0_fitsSights_L2 E M q (ad 100) a (nI set) w) (fun j _ => sgN X a set j = true) (fun y => y = some (if sgN X a set n then 1 else 0)) n (by omega) () rfl ?_ ?_
  · intro q j _ hj hb
    show (∃ s', b_X0_fitsSights_L2 E M (f_X0_fitsSights_L2 E M q) (ad 100) a (nI set) (nI j) = _ ∧ _) ∨ b_X0_fitsSights_L2 E M (f_X0_fitsSights_L2 E M q) (ad 100) a (nI set) (nI j) = _
    unfold b_X0_fitsSights_L2
    have c0 : f_X4_cell E M (ad 106) (nI j) 0 = some (X (3 * j)) := (cell_eq (c := 0) hW (by omega) (by omega)).trans (congrArg some (c.2 j 0 hj (by omega)))
    have c1 : f_X4_cell E M (ad 106) (nI j) 1 = some (X (3 * j + 1)) := (cell_eq (c := 1) hW (by omega) (by omega)).trans (congrArg some (c.2 j 1 hj (by omega)))
    have c2 : f_X4_cell E M (ad 106) (nI j) 2 = some (X (3 * j + 2)) := (cell_eq (c := 2) hW (by omega) (by omega)).trans (congrArg some (c.2 j 2 hj (by omega)))
    rw [hH.2.2.2.2.1, c.1, if_neg (le_n hj (by omega)), c0, Option.bind_some]
    by_cases ea : X (3 * j) = a
    · rw [if_pos ea, c1, Option.bind_some, c2, Option.bind_some, nm_v]
      by_cases eg : sgB (nI set) (X (3 * j + 1)) (X (3 * j + 2)) = true
      · rw [if_pos (of_decide_eq_true eg), nI_1]
        refine Or.inl ⟨(), rfl, ?_⟩
        show (sgN X a set j && (!decide (X (3 * j) = a) || sgB (nI set) (X (3 * j + 1)) (X (3 * j + 2)))) = true
        rw [hb, eg, Bool.or_true]
        rfl
      · rw [if_neg (of_decide_eq_false (Bool.eq_false_iff.mpr eg))]
        refine Or.inr ?_
        rw [sgN_f (j := j) (by unfold sgR; rw [decide_eq_true ea, Bool.eq_false_iff.mpr eg]; rfl) n hj]
        rfl
    · rw [if_neg ea, nI_1]
      refine Or.inl ⟨(), rfl, ?_⟩
      show (sgN X a set j && (!decide (X (3 * j) = a) || _)) = true
      rw [hb, decide_eq_false ea]
      rfl
  · intro q _ hb
    show b_X0_fitsSights_L2 E M (f_X0_fitsSights_L2 E M q) (ad 100) a (nI set) (nI n) = _
    unfold b_X0_fitsSights_L2
    rw [hH.2.2.2.2.1, c.1, if_pos (nI_le (Nat.le_refl _) (by omega)), hb]
    rfl
theorem n3 (j : Nat) : (3 : Int32) * nI j = nI (3 * j) := pk_mul 3 j
theorem mayK (hN : Nm E (ad 50) (ad 0) ad) {n set : Nat} {X : Nat → Int32} {a : Int32} (hn : n ≤ 6) (hs : set < 256) (hX : ∀ r, r < n → ∃ s t, s < 8 ∧ t < 2 ∧ X (3 * r + 1) = nI s ∧ X (3 * r + 2) = nI t) (hm : mi M (ad 0) 4 = nI n) (hf : ∀ k, k < 3 * n → mi M (ad 12) k = X k) : f_X9_mayKnow E M (ad 0) a (nI set) = some (if sgN X a set n then 1 else 0) := by
  unfold f_X9_mayKnow
  obtain ⟨q, e⟩ := loop_FU (fun q (s : Int32) w => f_X9_mayKnow_L5 E M q (ad 0) a (nI set) s (3 * w)) (fun r => if sgN X a set r then 1 else 0) n (by omega) (by
    intro q r hr
    show b_X9_mayKnow_L5 E M (f_X9_mayKnow_L5 E M q) (ad 0) a (nI set) _ (3 * nI r) = f_X9_mayKnow_L5 E M q (ad 0) a (nI set) (if sgN X a set r && sgR X a set r then 1 else 0) (3 * nI (r + 1))
    unfold b_X9_mayKnow_L5
    have e1 : nI (3 * r) + (1 : Int32) = nI (3 * r + 1) := nI_add _ 1
    have e2 : nI (3 * r) + (2 : Int32) = nI (3 * r + 2) := nI_add _ 2
    have e3 : nI (3 * r) + (3 : Int32) = nI (3 * (r + 1)) := nI_add _ 3
    obtain ⟨s, t, hs8, ht2, es, et⟩ := hX r hr
    rw [n3 r, n3 (r + 1), hm, n3 n, if_neg (nI_ge (a := 3 * r) (b := 3 * n) (by omega) (by omega)), e1, e2, gd_nI (by omega) (by decide), ix_nI (by omega), n_12 hN, hf _ (by omega), nm_v, nm_v, gd_nI (by omega) (by decide), ix_nI (by omega), hf _ (by omega), es, et]
    have fin : ∀ b : Bool, f_X9_mayKnow_L75 E M (f_X9_mayKnow_L5 E M q) (ad 0) a (nI set) (if sgN X a set r then 1 else 0) (nI (3 * r)) (if b then 1 else 0) = f_X9_mayKnow_L5 E M q (ad 0) a (nI set) (if sgN X a set r && (!decide (X (3 * r) = a) || b) then 1 else 0) (nI (3 * (r + 1))) := by
      intro b
      unfold f_X9_mayKnow_L75
      rw [e3, gd_nI (by omega) (by decide), ix_nI (by omega), n_12 hN, hf _ (by omega)]
      simp only [fl01]
      cases sgN X a set r
      · rw [if_pos rfl, Bool.false_and]; rfl
      · rw [if_neg (by decide), Bool.true_and]
        by_cases ea : X (3 * r) = a
        · rw [if_pos ea, decide_eq_true ea]
          cases b
          · rw [if_pos rfl]; rfl
          · rw [if_neg (by decide)]; rfl
        · rw [if_neg ea, decide_eq_false ea]; rfl
    show (if (((1 : Int32) <<< (nI s &&& 31)) - 1) &&& (nI set ^^^ (-1 : Int32)) = 0 then (if f_X9_has E M (nI set) (nI s) = (if nI t = 0 then (1 : Int32) else 0) then f_X9_mayKnow_L75 E M (f_X9_mayKnow_L5 E M q) (ad 0) a (nI set) _ (nI (3 * r)) 1 else f_X9_mayKnow_L75 E M (f_X9_mayKnow_L5 E M q) (ad 0) a (nI set) _ (nI (3 * r)) 0) else f_X9_mayKnow_L75 E M (f_X9_mayKnow_L5 E M q) (ad 0) a (nI set) _ (nI (3 * r)) 0) = _
    have eb : sgR X a set r = (!decide (X (3 * r) = a) || (decide (((1 : Int32) <<< (nI s &&& 31) - 1) &&& (nI set ^^^ (-1 : Int32)) = 0) && decide (f_X9_has E M (nI set) (nI s) = if nI t = 0 then (1 : Int32) else 0))) := by
      unfold sgR
      rw [es, et, sgB_ref set hs s hs8 t ht2]
      rfl
    rw [eb]
    by_cases g1 : (((1 : Int32) <<< (nI s &&& 31)) - 1) &&& (nI set ^^^ (-1 : Int32)) = 0
    · rw [if_pos g1, decide_eq_true g1, Bool.true_and]
      by_cases g2 : f_X9_has E M (nI set) (nI s) = if nI t = 0 then (1 : Int32) else 0
      · rw [if_pos g2, decide_eq_true g2]; exact fin true
      · rw [if_neg g2, decide_eq_false g2]; exact fin false
    · rw [if_neg g1, decide_eq_false g1, Bool.false_and]; exact fin false)
  refine e.trans ?_
  show b_X9_mayKnow_L5 E M (f_X9_mayKnow_L5 E M q) (ad 0) a (nI set) _ (3 * nI n) = _
  unfold b_X9_mayKnow_L5
  rw [hm, if_pos (by rw [n3]; exact nI_le (Nat.le_refl _) (by omega))]
def mayA (X : Nat → Int32) (a : Int32) (n : Nat) : Nat → Int32 × Int32 × Int32
  | 0 => (0, 255, 0)
  | j + 1 => if sgN X a j n then ((mayA X a n j).1 + 1, (mayA X a n j).2.1 &&& nI j, (mayA X a n j).2.2 ||| nI j) else mayA X a n j
theorem mayL8 (hH : HN E ad 100) (hW : WN E ad 106) (h100 : rr E (ad 50) 0 = ad 100) {n k : Nat} {X : Nat → Int32} {a : Int32} (hn : n ≤ 6) (hk : k ≤ 2) (c : CR ad M 106 n 3 X) : f_X8_may_L40 E FU M (ad 50) a (nI k) 0 255 0 0 = some (if k = 0 then (mayA X a n 256).1 else if k = 2 then (mayA X a n 256).2.2 else if (mayA X a n 256).1 = 0 then -1 else (mayA X a n 256).2.1, M) := by
  obtain ⟨q, e⟩ := loop_FU (fun q (s : Int32 × Int32 × Int32) w => f_X8_may_L40 E q M (ad 50) a (nI k) s.1 s.2.1 s.2.2 w) (fun j => mayA X a n j) 256 (by decide) (by
    intro q j hj
    show b_X8_may_L40 E (f_X8_may_L40 E q) M (ad 50) a (nI k) _ _ _ (nI j) = f_X8_may_L40 E q M (ad 50) a (nI k) (if sgN X a j n then ((mayA X a n j).1 + 1, (mayA X a n j).2.1 &&& nI j, (mayA X a n j).2.2 ||| nI j) else mayA X a n j).1 (if sgN X a j n then ((mayA X a n j).1 + 1, (mayA X a n j).2.1 &&& nI j, (mayA X a n j).2.2 ||| nI j) else mayA X a n j).2.1 (if sgN X a j n then ((mayA X a n j).1 + 1, (mayA X a n j).2.1 &&& nI j, (mayA X a n j).2.2 ||| nI j) else mayA X a n j).2.2 (nI (j + 1))
    unfold b_X8_may_L40
    rw [if_neg (show ¬ (256 : Int32) ≤ nI (j) from nI_ge (a := j) (b := 256) (by omega) (by decide)), h100, fitsS hH hW hn c, Option.bind_some, nI_1]
    simp only [fl01]
    cases sgN X a j n
    · rw [if_pos rfl, if_neg (by decide)]
    · rw [if_neg (by decide), if_pos rfl])
  refine e.trans ?_
  show b_X8_may_L40 E (f_X8_may_L40 E q) M (ad 50) a (nI k) _ _ _ (nI 256) = _
  unfold b_X8_may_L40
  rw [if_pos (by decide)]
  rcases (show k = 0 ∨ k = 1 ∨ k = 2 by omega) with rfl | rfl | rfl
  · rfl
  · rfl
  · rfl
theorem mayL9 (hN : Nm E (ad 50) (ad 0) ad) {n k : Nat} {X : Nat → Int32} {a : Int32} (hn : n ≤ 6) (hk : k ≤ 2) (hX : ∀ r, r < n → ∃ s t, s < 8 ∧ t < 2 ∧ X (3 * r + 1) = nI s ∧ X (3 * r + 2) = nI t) (hm : mi M (ad 0) 4 = nI n) (hf : ∀ k, k < 3 * n → mi M (ad 12) k = X k) : f_X9_may_L35 E FU M (ad 0) a (nI k) 0 255 0 0 = some (if k = 0 then (mayA X a n 256).1 else if k = 2 then (mayA X a n 256).2.2 else if (mayA X a n 256).1 = 0 then -1 else (mayA X a n 256).2.1, M) := by
  obtain ⟨q, e⟩ := loop_FU (fun q (s : Int32 × Int32 × Int32) w => f_X9_may_L35 E q M (ad 0) a (nI k) s.1 s.2.1 s.2.2 w) (fun j => mayA X a n j) 256 (by decide) (by
    intro q j hj
    show b_X9_may_L35 E (f_X9_may_L35 E q) M (ad 0) a (nI k) _ _ _ (nI j) = f_X9_may_L35 E q M (ad 0) a (nI k) (if sgN X a j n then ((mayA X a n j).1 + 1, (mayA X a n j).2.1 &&& nI j, (mayA X a n j).2.2 ||| nI j) else mayA X a n j).1 (if sgN X a j n then ((mayA X a n j).1 + 1, (mayA X a n j).2.1 &&& nI j, (mayA X a n j).2.2 ||| nI j) else mayA X a n j).2.1 (if sgN X a j n then ((mayA X a n j).1 + 1, (mayA X a n j).2.1 &&& nI j, (mayA X a n j).2.2 ||| nI j) else mayA X a n j).2.2 (nI (j + 1))
    unfold b_X9_may_L35
    rw [if_neg (show ¬ (256 : Int32) ≤ nI (j) from nI_ge (a := j) (b := 256) (by omega) (by decide)), mayK hN hn (by omega) hX hm hf, Option.bind_some, nI_1]
    simp only [fl01]
    cases sgN X a j n
    · rw [if_pos rfl, if_neg (by decide)]
    · rw [if_neg (by decide), if_pos rfl])
  refine e.trans ?_
  show b_X9_may_L35 E (f_X9_may_L35 E q) M (ad 0) a (nI k) _ _ _ (nI 256) = _
  unfold b_X9_may_L35
  rw [if_pos (by decide)]
  rcases (show k = 0 ∨ k = 1 ∨ k = 2 by omega) with rfl | rfl | rfl
  · rfl
  · rfl
  · rfl
theorem ok_may (hI : Inv E x m M) : al_may Inv E x m M := by
  intro a1 a2
  obtain ⟨ad, h, pi, hN, ho, hc, hb, k1, k2, k3, k4, k5⟩ := id hI
  obtain ⟨rfl, rfl⟩ : m = ad 0 ∧ x = ad 50 := ⟨hN.1.symm, hN.2.1.symm⟩
  have r := RO_of ho.1.1 hb
  have hH := hn_of hN (H := 100) (Or.inl rfl)
  have hS := sn_of hN (H := 100) (Or.inl rfl)
  have hT : sT (oS h) < 2 ^ 31 := by have := ho.2.1; omega
  have hp : oP h ≤ 6 := ho.1.1
  have hI' := hN.2.2.1
  have hP : ∀ j, j < 8 → SN E ad (100 + 16 + 4 * j) := fun j hj => (sp_of hN (H := 100) (Or.inl rfl) hj).1
  have lv := LV_of ho hb
  have wn := (wn_of hN (H := 100) (Or.inl rfl)).1
  by_cases g : inP (oP h) a1
  · by_cases g2 : (0 : Int32) ≤ a2 ∧ a2 ≤ 2
    · obtain ⟨k, hk, rfl⟩ := rg (n := 2) (by decide) g2
      refine ⟨if k = 0 then (mayA (oX h) a1 (oA h) 256).1 else if k = 2 then (mayA (oX h) a1 (oA h) 256).2.2 else if (mayA (oX h) a1 (oA h) 256).1 = 0 then -1 else (mayA (oX h) a1 (oA h) 256).2.1, M, M, ?_, ?_, hI⟩
      · unfold f_X8_may
        rw [n_100 hN, hasP_t hp hc.1.1 g, if_neg I10, wi_t g2, if_neg I10]
        exact mayL8 hH wn (n_100 hN) ho.2.2.2.2.1 hk hc.2.2.1
      · unfold f_X9_may
        rw [one_t r.1 g, if_neg I10, in_t g2, if_neg I10]
        exact mayL9 hN ho.2.2.2.2.1 hk ho.2.2.2.2.2.2.2 lv.2.2.2.1 lv.2.2.2.2.2.2.1
    · exact fin_bad hN ho hc hb k1 k2 k3 k4 k5 (by unfold f_X8_may; rw [n_100 hN, hasP_t hp hc.1.1 g, if_neg I10, wi_f g2, if_pos I00]; rfl) (fun M1 u => by unfold f_X9_may; rw [one_t ((u 0 (by decide) 1).trans r.1) g, if_neg I10, in_f g2, if_pos I00]; rfl)
  · exact fin_bad hN ho hc hb k1 k2 k3 k4 k5 (by unfold f_X8_may; rw [n_100 hN, hasP_f hc.1.1 g, if_pos I00]; rfl) (fun M1 u => by unfold f_X9_may; rw [one_f ((u 0 (by decide) 1).trans r.1) g, if_pos I00]; rfl)
/-! hosts -/
def hset (i1 i2 pr : Nat) : Nat := (if pr.testBit 0 then 2 ^ i1 else 0) ||| (if pr.testBit 1 then 2 ^ i2 else 0)
theorem hset_I : ∀ pr, pr < 4 → ∀ i1, i1 < 6 → ∀ i2, i2 < 6 → ((nI pr &&& (1 : Int32)) <<< (nI i1 &&& 31)) ||| (((nI pr >>> ((1 : Int32) &&& 31)) &&& (1 : Int32)) <<< (nI i2 &&& 31)) = nI (hset i1 i2 pr) := by
  unfold hset
  decide +kernel
theorem hset_lt : ∀ pr, pr < 4 → ∀ i1, i1 < 6 → ∀ i2, i2 < 6 → hset i1 i2 pr < 64 := by
  unfold hset
  decide +kernel
theorem hset_tb (i1 i2 pr j : Nat) : (hset i1 i2 pr).testBit j = ((pr.testBit 0 && decide (i1 = j)) || (pr.testBit 1 && decide (i2 = j))) := by
  unfold hset
  rw [Nat.testBit_or]
  cases pr.testBit 0 <;> cases pr.testBit 1 <;> simp [Nat.testBit_two_pow]
theorem sum_add {f g : Nat → Nat} : ∀ n, sumO n (fun j => f j + g j) = sumO n f + sumO n g := by
  intro n
  induction n with
  | zero => rfl
  | succ n ih =>
    show sumO n (fun j => f j + g j) + (f n + g n) = (sumO n f + f n) + (sumO n g + g n)
    rw [ih]
    omega
theorem sum_one {c i : Nat} : ∀ n, sumO n (fun j => if i = j then c else 0) = if i < n then c else 0 := by
  intro n
  induction n with
  | zero => rfl
  | succ n ih =>
    show sumO n (fun j => if i = j then c else 0) + (if i = n then c else 0) = _
    rw [ih]
    by_cases e : i = n
    · subst e; rw [if_neg (by omega), if_pos rfl, if_pos (by omega)]; omega
    · rw [if_neg e]
      by_cases l : i < n
      · rw [if_pos l, if_pos (by omega)]; rfl
      · rw [if_neg l, if_neg (by omega)]
def wo1 (h : Ho) (i : Nat) : Nat := worN (oK h i) (sP (oS h) i) (sT (oS h) % 24)
theorem word_h {i1 i2 pr : Nat} (h1 : i1 < oP h) (h2 : i2 < oP h) (hd : i1 ≠ i2) : wordN h (hset i1 i2 pr) (sT (oS h)) = (if pr.testBit 0 then wo1 h i1 else 0) + (if pr.testBit 1 then wo1 h i2 else 0) := by
  unfold wordN
  rw [sum_ext (g := fun j => (if i1 = j then (if pr.testBit 0 then wo1 h i1 else 0) else 0) + (if i2 = j then (if pr.testBit 1 then wo1 h i2 else 0) else 0)) (oP h) ?_, sum_add, sum_one, sum_one, if_pos h1, if_pos h2]
  intro j hj
  rw [hset_tb]
  by_cases e1 : i1 = j
  · subst e1
    rw [decide_eq_true (show i1 = i1 from rfl), decide_eq_false (show ¬ i2 = i1 from fun z => hd z.symm), if_pos (show i1 = i1 from rfl), if_neg (show ¬ i2 = i1 from fun z => hd z.symm), Bool.and_true, Bool.and_false, Bool.or_false]
    rfl
  · rw [decide_eq_false e1, if_neg e1, Bool.and_false, Bool.false_or, Nat.zero_add]
    by_cases e2 : i2 = j
    · subst e2
      rw [decide_eq_true (show i2 = i2 from rfl), if_pos (show i2 = i2 from rfl), Bool.and_true]
      rfl
    · rw [decide_eq_false e2, if_neg e2, Bool.and_false]
      rfl
def gvN (h : Ho) (i1 i2 i3 k pr who : Nat) : Int32 := (if meetB h i3 k (hset i1 i2 pr) (sT (oS h)) then (4 : Int32) else 0) - (if pr.testBit who then nI (1 + wo1 h (if who = 0 then i1 else i2)) else 0)
theorem ft_ : ¬ (false = true) := by decide
theorem tf_ : ¬ (true = false) := by decide
theorem sub0 (a : Int32) : a - 0 = a := Int32.sub_zero a
theorem hostGets_eq (hH : HN E ad 100) (hS : SN E ad (100 + 12)) {i1 i2 i3 k pr who : Nat} (ho : okP h) (h1 : i1 < oP h) (h2 : i2 < oP h) (h3 : i3 < oP h) (hk : k < 8) (hp : pr < 4) (hw : who < 2) (hT : sT (oS h) < 2 ^ 31) (c : CO ad M 100 h) : f_X0_hostGets E M (ad 100) (nI i1) (nI i2) (nI i3) (nI k) (nI pr) (nI who) = some (gvN h i1 i2 i3 k pr who) := by
  have hp6 := ho.1
  unfold f_X0_hostGets
  rw [nm_v, hset_I pr hp i1 (by omega) i2 (by omega), hH.2.2.1, c.2.2.2.2.2.2.2, meet_eq hH hS ho h3 hk (by have := hset_lt pr hp i1 (by omega) i2 (by omega); omega) hT c, Option.bind_some, nm_v]
  have ew : (if nI who = 0 then nI i1 else nI i2) = nI (if who = 0 then i1 else i2) := by
    rcases (show who = 0 ∨ who = 1 by omega) with rfl | rfl
    · rfl
    · rfl
  have e4 : (if (if meetB h i3 k (hset i1 i2 pr) (sT (oS h)) then (1 : Int32) else 0) = 0 then (0 : Int32) else 4) = (if meetB h i3 k (hset i1 i2 pr) (sT (oS h)) then (4 : Int32) else 0) := by
    cases meetB h i3 k (hset i1 i2 pr) (sT (oS h)) <;> rfl
  simp only [bitN (show pr < 2 ^ 31 by omega) (show who < 32 by omega)]
  rw [ew, worth_eq hH hS ho (by split <;> assumption) hT c, Option.bind_some, e4]
  unfold gvN
  cases pr.testBit who
  · rw [if_neg ft_, if_neg ft_, sub0]
  · rw [if_pos rfl, if_pos rfl]
    exact congrArg (fun z => some (_ - z)) (nI_add 1 _)
theorem gets_eq (hN : Nm E (ad 50) (ad 0) ad) {i1 i2 i3 k pr who : Nat} (ho : okP h) (h1 : i1 < oP h) (h2 : i2 < oP h) (h3 : i3 < oP h) (hd : i1 ≠ i2) (hk : k < 8) (hp : pr < 4) (hw : who < 2) (hT : sT (oS h) < 2 ^ 31) (r : RO ad M h) : f_X9_gets E M (ad 0) (nI i1) (nI i2) (nI i3) (nI k) (nI pr) (nI who) = some (gvN h i1 i2 i3 k pr who) := by
  have hp6 := ho.1
  have b0 : f_X9_has E M (nI pr) 0 = if pr.testBit 0 then 1 else 0 := has_eq (k := 0) (by omega) (by decide)
  have b1 : f_X9_has E M (nI pr) 1 = if pr.testBit 1 then 1 else 0 := has_eq (k := 1) (by omega) (by decide)
  have bw : f_X9_has E M (nI pr) (nI who) = if pr.testBit who then 1 else 0 := has_eq (k := who) (by omega) (by omega)
  have ew : (if nI who = 0 then nI i1 else nI i2) = nI (if who = 0 then i1 else i2) := by
    rcases (show who = 0 ∨ who = 1 by omega) with rfl | rfl
    · rfl
    · rfl
  have s82 : ∀ b : Bool, f_X9_gets_L82 E M (ad 0) (nI i1) (nI i2) (nI pr) (nI who) (nI (sT (oS h) % 24)) (if b then 1 else 0) = some ((if b then (4 : Int32) else 0) - (if pr.testBit who then nI (1 + wo1 h (if who = 0 then i1 else i2)) else 0)) := by
    intro b
    unfold f_X9_gets_L82 f_X9_gets_L116
    have e4 : (if (if b then (1 : Int32) else 0) = 0 then (0 : Int32) else 4) = (if b then (4 : Int32) else 0) := by cases b <;> rfl
    rw [bw, ew, worth9_eq hN ho (by split <;> assumption) r, Option.bind_some, e4]
    simp only [fl01]
    cases pr.testBit who
    · rw [if_pos (show false = false from rfl), if_neg ft_]
    · rw [if_neg tf_, if_pos (show true = true from rfl)]
      exact congrArg (fun z => some (_ - z)) (nI_add 1 _)
  have s46 : ∀ a b : Nat, a ≤ 4 → b ≤ 4 → b + a = wordN h (hset i1 i2 pr) (sT (oS h)) → f_X9_gets_L46 E M (ad 0) (nI i1) (nI i2) (nI i3) (nI k) (nI pr) (nI who) (nI (sT (oS h) % 24)) (nI a) (nI b) = some (gvN h i1 i2 i3 k pr who) := by
    intro a b ha hb hab
    unfold f_X9_gets_L46
    rw [gd_nI (by omega) (by decide), ix_nI (by omega), n_10 hN, r.2.2.2.2.2.1 i3 h3, has_eq (by have := ho.2.2.2.2.2.2.1 i3; omega) (by omega), wants9_eq hN ho h3 hk r, Option.bind_some, nI_add]
    simp only [fl01]
    unfold gvN meetB
    cases (sN (oS h) i3).testBit k
    · rw [if_pos rfl, Bool.false_or, ← hab]
      have wl : wantN h i3 k (sT (oS h)) ≤ 17 := by have := wan_le (sS (oS h) k) (oW h i3) (sT (oS h) % 24); have := ho.2.2.1 i3 h3; unfold wantN; omega
      by_cases g : wantN h i3 k (sT (oS h)) ≤ b + a
      · rw [if_neg (nI_nlt (a := b + a) (b := wantN h i3 k (sT (oS h))) g (by omega)), decide_eq_true g]; exact s82 true
      · rw [if_pos (nI_lt (a := b + a) (b := wantN h i3 k (sT (oS h))) (by omega) (by omega)), decide_eq_false g]; exact s82 false
    · rw [if_neg (by decide), Bool.true_or]; exact s82 true
  have hw1 : ∀ i, wo1 h i ≤ 4 := fun i => wor_le _ _ _
  have hww := word_h (pr := pr) h1 h2 hd
  have s26 : ∀ b : Nat, b = (if pr.testBit 0 then wo1 h i1 else 0) → f_X9_gets_L26 E M (ad 0) (nI i1) (nI i2) (nI i3) (nI k) (nI pr) (nI who) (nI (sT (oS h) % 24)) (nI b) = some (gvN h i1 i2 i3 k pr who) := by
    intro b hb
    have hb4 : b ≤ 4 := by rw [hb]; have := hw1 i1; split <;> omega
    unfold f_X9_gets_L26
    rw [b1, worth9_eq hN ho h2 r, Option.bind_some]
    simp only [fl01]
    cases e : pr.testBit 1
    · rw [if_pos rfl]
      refine s46 0 b (by omega) hb4 ?_
      rw [hww, ← hb, e]
      rfl
    · rw [if_neg (by decide)]
      refine s46 (wo1 h i2) b (hw1 i2) hb4 ?_
      rw [hww, ← hb, e]
      rfl
  unfold f_X9_gets
  rw [b0, day_eq hN hT r, worth9_eq hN ho h1 r, Option.bind_some]
  simp only [fl01]
  cases e : pr.testBit 0
  · rw [if_pos rfl]
    exact s26 0 (by rw [e]; rfl)
  · rw [if_neg (by decide)]
    exact s26 (wo1 h i1) (by rw [e]; rfl)
def restB (h : Ho) (i1 i2 i3 k pr : Nat) : Bool := !decide (gvN h i1 i2 i3 k pr 0 < gvN h i1 i2 i3 k (pr ^^^ 1) 0) && !decide (gvN h i1 i2 i3 k pr 1 < gvN h i1 i2 i3 k (pr ^^^ 2) 1)
theorem x1lt : ∀ pr, pr < 4 → pr ^^^ 1 < 4 ∧ pr ^^^ 2 < 4 := by decide
theorem rest8 (hH : HN E ad 100) (hS : SN E ad (100 + 12)) {i1 i2 i3 k : Nat} (ho : okP h) (h1 : i1 < oP h) (h2 : i2 < oP h) (h3 : i3 < oP h) (hk : k < 8) (hT : sT (oS h) < 2 ^ 31) (c : CO ad M 100 h) : f_X0_restingPairs E M (ad 100) (nI i1) (nI i2) (nI i3) (nI k) = some (nI (setOf 4 (restB h i1 i2 i3 k))) := by
  unfold f_X0_restingPairs
  obtain ⟨n, e⟩ := loop_FU (fun q (s : Int32) w => f_X0_restingPairs_L6 E M q (ad 100) (nI i1) (nI i2) (nI i3) (nI k) s w) (fun j => nI (setOf j (restB h i1 i2 i3 k))) 4 (by decide) (by
    intro n j hj
    show b_X0_restingPairs_L6 E M (f_X0_restingPairs_L6 E M n) (ad 100) (nI i1) (nI i2) (nI i3) (nI k) _ (nI j) = f_X0_restingPairs_L6 E M n (ad 100) (nI i1) (nI i2) (nI i3) (nI k) (nI (setOf j (restB h i1 i2 i3 k) ||| if restB h i1 i2 i3 k j then 2 ^ j else 0)) (nI (j + 1))
    unfold b_X0_restingPairs_L6
    have g0 := hostGets_eq (pr := j) (who := 0) hH hS ho h1 h2 h3 hk hj (by decide) hT c
    have g1 := hostGets_eq (pr := j) (who := 1) hH hS ho h1 h2 h3 hk hj (by decide) hT c
    have g2 := hostGets_eq (pr := j ^^^ 1) (who := 0) hH hS ho h1 h2 h3 hk (x1lt j hj).1 (by decide) hT c
    have g3 := hostGets_eq (pr := j ^^^ 2) (who := 1) hH hS ho h1 h2 h3 hk (x1lt j hj).2 (by decide) hT c
    rw [nI_0] at g0 g2
    rw [show nI 1 = 1 from rfl] at g1 g3
    have x1 : nI j ^^^ (1 : Int32) = nI (j ^^^ 1) := nI_xor j 1
    have x2 : nI j ^^^ (2 : Int32) = nI (j ^^^ 2) := nI_xor j 2
    rw [if_neg (show ¬ (4 : Int32) ≤ nI (j) from nI_ge (a := j) (b := 4) (by omega) (by decide)), x1, x2, g0, Option.bind_some, g2, Option.bind_some, nm_v, g1, Option.bind_some, g3, Option.bind_some, nm_v, nm_v, shl1 (by omega), nI_1, nI_or]
    unfold restB
    by_cases q1 : gvN h i1 i2 i3 k j 0 < gvN h i1 i2 i3 k (j ^^^ 1) 0
    · rw [if_pos q1, if_pos rfl, decide_eq_true q1]; simp
    · rw [if_neg q1, if_neg I10, decide_eq_false q1]
      by_cases q2 : gvN h i1 i2 i3 k j 1 < gvN h i1 i2 i3 k (j ^^^ 2) 1
      · rw [if_pos q2, if_pos rfl, decide_eq_true q2]; simp
      · rw [if_neg q2, if_neg I10, decide_eq_false q2]; rfl)
  refine e.trans ?_
  show b_X0_restingPairs_L6 E M (f_X0_restingPairs_L6 E M n) (ad 100) (nI i1) (nI i2) (nI i3) (nI k) _ (nI 4) = _
  unfold b_X0_restingPairs_L6
  rw [if_pos (by decide)]
theorem rest9 (hN : Nm E (ad 50) (ad 0) ad) {i1 i2 i3 k : Nat} (ho : okP h) (h1 : i1 < oP h) (h2 : i2 < oP h) (h3 : i3 < oP h) (hd : i1 ≠ i2) (hk : k < 8) (hT : sT (oS h) < 2 ^ 31) (r : RO ad M h) : f_X9_hosts_L91 E FU M (ad 0) (nI i1) (nI i2) (nI i3) (nI k) 0 0 = some (nI (setOf 4 (restB h i1 i2 i3 k)), M) := by
  obtain ⟨n, e⟩ := loop_FU (fun q (s : Int32) w => f_X9_hosts_L91 E q M (ad 0) (nI i1) (nI i2) (nI i3) (nI k) s w) (fun j => nI (setOf j (restB h i1 i2 i3 k))) 4 (by decide) (by
    intro n j hj
    show b_X9_hosts_L91 E (f_X9_hosts_L91 E n) M (ad 0) (nI i1) (nI i2) (nI i3) (nI k) _ (nI j) = f_X9_hosts_L91 E n M (ad 0) (nI i1) (nI i2) (nI i3) (nI k) (nI (setOf j (restB h i1 i2 i3 k) ||| if restB h i1 i2 i3 k j then 2 ^ j else 0)) (nI (j + 1))
    unfold b_X9_hosts_L91 f_X9_hosts_L160
    have g0 := gets_eq (pr := j) (who := 0) hN ho h1 h2 h3 hd hk hj (by decide) hT r
    have g1 := gets_eq (pr := j) (who := 1) hN ho h1 h2 h3 hd hk hj (by decide) hT r
    have g2 := gets_eq (pr := j ^^^ 1) (who := 0) hN ho h1 h2 h3 hd hk (x1lt j hj).1 (by decide) hT r
    have g3 := gets_eq (pr := j ^^^ 2) (who := 1) hN ho h1 h2 h3 hd hk (x1lt j hj).2 (by decide) hT r
    rw [nI_0] at g0 g2
    rw [show nI 1 = 1 from rfl] at g1 g3
    have x1 : nI j ^^^ (1 : Int32) = nI (j ^^^ 1) := nI_xor j 1
    have x2 : nI j ^^^ (2 : Int32) = nI (j ^^^ 2) := nI_xor j 2
    rw [if_neg (show ¬ (4 : Int32) ≤ nI (j) from nI_ge (a := j) (b := 4) (by omega) (by decide)), x1, x2, g0, Option.bind_some, g2, Option.bind_some, g1, Option.bind_some, g3, Option.bind_some]
    rw [nm_v, nm_v, if_pos rfl, if_neg I10, shl1 (by omega), nI_1, nI_or, show nI (setOf j (restB h i1 i2 i3 k)) ||| (0 : Int32) = nI (setOf j (restB h i1 i2 i3 k)) from (nI_or _ 0).trans (by rw [Nat.or_zero])]
    unfold restB
    by_cases q1 : gvN h i1 i2 i3 k j 0 < gvN h i1 i2 i3 k (j ^^^ 1) 0
    · rw [if_pos q1, decide_eq_true q1]; simp
    · rw [if_neg q1, decide_eq_false q1]
      by_cases q2 : gvN h i1 i2 i3 k j 1 < gvN h i1 i2 i3 k (j ^^^ 2) 1
      · rw [if_pos q2, decide_eq_true q2]; simp
      · rw [if_neg q2, decide_eq_false q2]; rfl)
  refine e.trans ?_
  show b_X9_hosts_L91 E (f_X9_hosts_L91 E n) M (ad 0) (nI i1) (nI i2) (nI i3) (nI k) _ (nI 4) = _
  unfold b_X9_hosts_L91
  rw [if_pos (by decide)]
theorem ok_hosts (hI : Inv E x m M) : al_hosts Inv E x m M := by
  intro a1 a2 a3 a4
  obtain ⟨ad, h, pi, hN, ho, hc, hb, k1, k2, k3, k4, k5⟩ := id hI
  obtain ⟨rfl, rfl⟩ : m = ad 0 ∧ x = ad 50 := ⟨hN.1.symm, hN.2.1.symm⟩
  have r := RO_of ho.1.1 hb
  have hH := hn_of hN (H := 100) (Or.inl rfl)
  have hS := sn_of hN (H := 100) (Or.inl rfl)
  have hT : sT (oS h) < 2 ^ 31 := by have := ho.2.1; omega
  have hp : oP h ≤ 6 := ho.1.1
  have hI' := hN.2.2.1
  have hP : ∀ j, j < 8 → SN E ad (100 + 16 + 4 * j) := fun j hj => (sp_of hN (H := 100) (Or.inl rfl) hj).1
  by_cases g1 : inP (oP h) a1
  · by_cases g2 : inP (oP h) a2
    · by_cases g3 : inP (oP h) a3
      · by_cases g4 : (0 : Int32) ≤ a4 ∧ a4 ≤ 7
        · by_cases d1 : a1 = a2
          · exact fin_bad hN ho hc hb k1 k2 k3 k4 k5 (by unfold f_X8_hosts; rw [n_100 hN, hasP_t hp hc.1.1 g1, if_neg I10, hasP_t hp hc.1.1 g2, if_neg I10, hasP_t hp hc.1.1 g3, if_neg I10, st8_t g4, if_neg I10, if_pos d1]; rfl) (fun M1 u => by unfold f_X9_hosts; rw [one_t ((u 0 (by decide) 1).trans r.1) g1, if_neg I10, one_t ((u 0 (by decide) 1).trans r.1) g2, if_neg I10, one_t ((u 0 (by decide) 1).trans r.1) g3, if_neg I10, st9_t g4, if_neg I10, if_pos d1]; rfl)
          · by_cases d2 : a1 = a3
            · exact fin_bad hN ho hc hb k1 k2 k3 k4 k5 (by unfold f_X8_hosts; rw [n_100 hN, hasP_t hp hc.1.1 g1, if_neg I10, hasP_t hp hc.1.1 g2, if_neg I10, hasP_t hp hc.1.1 g3, if_neg I10, st8_t g4, if_neg I10, if_neg d1, if_pos d2]; rfl) (fun M1 u => by unfold f_X9_hosts; rw [one_t ((u 0 (by decide) 1).trans r.1) g1, if_neg I10, one_t ((u 0 (by decide) 1).trans r.1) g2, if_neg I10, one_t ((u 0 (by decide) 1).trans r.1) g3, if_neg I10, st9_t g4, if_neg I10, if_neg d1, if_pos d2]; rfl)
            · by_cases d3 : a2 = a3
              · exact fin_bad hN ho hc hb k1 k2 k3 k4 k5 (by unfold f_X8_hosts; rw [n_100 hN, hasP_t hp hc.1.1 g1, if_neg I10, hasP_t hp hc.1.1 g2, if_neg I10, hasP_t hp hc.1.1 g3, if_neg I10, st8_t g4, if_neg I10, if_neg d1, if_neg d2, if_pos d3]; rfl) (fun M1 u => by unfold f_X9_hosts; rw [one_t ((u 0 (by decide) 1).trans r.1) g1, if_neg I10, one_t ((u 0 (by decide) 1).trans r.1) g2, if_neg I10, one_t ((u 0 (by decide) 1).trans r.1) g3, if_neg I10, st9_t g4, if_neg I10, if_neg d1, if_neg d2, if_pos d3]; rfl)
              · obtain ⟨i1, h1, e1⟩ := inP_ex hp g1
                obtain ⟨i2, h2, e2⟩ := inP_ex hp g2
                obtain ⟨i3, h3, e3⟩ := inP_ex hp g3
                obtain ⟨k, hk, e4⟩ := rg (n := 7) (by decide) g4
                have hd : i1 ≠ i2 := fun z => d1 (by rw [e1, e2, z])
                have kn8 : ∀ i, i < oP h → f_X5_isKnown E M (ad (100 + 12)) (nI i) (nI k) = some (if (sN (oS h) i).testBit k then 1 else 0) := fun i hi => isKnown_eq hS (by omega) (by omega) (ho.1.2.2.2.2.2.2.1 i) (hc.1.2.2.2.2.1 i (by omega))
                have kn9 : ∀ M1, Mu ad M M1 → ∀ i, i < oP h → f_X9_has E M1 (mi M1 (ad 10) i) (nI k) = if (sN (oS h) i).testBit k then 1 else 0 := fun M1 u i hi => by rw [u 10 (by decide) i, r.2.2.2.2.2.1 i hi, has_eq (by have := ho.1.2.2.2.2.2.2.1 i; omega) (by omega)]
                cases b1 : (sN (oS h) i1).testBit k
                · have z1 := kn8 i1 h1
                  have z2 := fun M1 u => kn9 M1 u i1 h1
                  rw [b1, if_neg (by decide)] at z1
                  simp only [b1] at z2
                  rw [← e1, ← e4] at z1
                  exact fin_no hN ho hc hb k1 k2 k3 k4 k5 (by unfold f_X8_hosts; rw [n_100 hN, hasP_t hp hc.1.1 g1, if_neg I10, hasP_t hp hc.1.1 g2, if_neg I10, hasP_t hp hc.1.1 g3, if_neg I10, st8_t g4, if_neg I10, if_neg d1, if_neg d2, if_neg d3, hH.2.2.1, z1, Option.bind_some, if_pos rfl]; rfl) (fun M1 u => by unfold f_X9_hosts; rw [one_t ((u 0 (by decide) 1).trans r.1) g1, if_neg I10, one_t ((u 0 (by decide) 1).trans r.1) g2, if_neg I10, one_t ((u 0 (by decide) 1).trans r.1) g3, if_neg I10, st9_t g4, if_neg I10, if_neg d1, if_neg d2, if_neg d3, e1, e4, gd_nI (by omega) (by decide), ix_nI (by omega), n_10 hN, z2 M1 u, if_neg ft_, if_pos rfl]; rfl)
                · cases b2 : (sN (oS h) i2).testBit k
                  · have y1 := kn8 i1 h1
                    have y2 := fun M1 u => kn9 M1 u i1 h1
                    rw [b1, if_pos rfl] at y1
                    simp only [b1, if_true] at y2
                    rw [← e1, ← e4] at y1
                    have z1 := kn8 i2 h2
                    have z2 := fun M1 u => kn9 M1 u i2 h2
                    rw [b2, if_neg (by decide)] at z1
                    simp only [b2] at z2
                    rw [← e2, ← e4] at z1
                    exact fin_no hN ho hc hb k1 k2 k3 k4 k5 (by unfold f_X8_hosts; rw [n_100 hN, hasP_t hp hc.1.1 g1, if_neg I10, hasP_t hp hc.1.1 g2, if_neg I10, hasP_t hp hc.1.1 g3, if_neg I10, st8_t g4, if_neg I10, if_neg d1, if_neg d2, if_neg d3, hH.2.2.1, y1, Option.bind_some, if_neg I10, z1, Option.bind_some, if_pos rfl]; rfl) (fun M1 u => by unfold f_X9_hosts; rw [one_t ((u 0 (by decide) 1).trans r.1) g1, if_neg I10, one_t ((u 0 (by decide) 1).trans r.1) g2, if_neg I10, one_t ((u 0 (by decide) 1).trans r.1) g3, if_neg I10, st9_t g4, if_neg I10, if_neg d1, if_neg d2, if_neg d3, e1, e2, e4, gd_nI (by omega) (by decide), gd_nI (by omega) (by decide), ix_nI (by omega), ix_nI (by omega), n_10 hN, y2 M1 u, if_neg I10, z2 M1 u, if_neg ft_, if_pos rfl]; rfl)
                  · have y1 := kn8 i1 h1
                    have y2 := kn9 M Mu.rf i1 h1
                    have z1 := kn8 i2 h2
                    have z2 := kn9 M Mu.rf i2 h2
                    rw [b1, if_pos rfl] at y1 y2
                    rw [b2, if_pos rfl] at z1 z2
                    refine ⟨nI (setOf 4 (restB h i1 i2 i3 k)), M, M, ?_, ?_, hI⟩
                    · unfold f_X8_hosts
                      rw [n_100 hN, hasP_t hp hc.1.1 g1, if_neg I10, hasP_t hp hc.1.1 g2, if_neg I10, hasP_t hp hc.1.1 g3, if_neg I10, st8_t g4, if_neg I10, if_neg d1, if_neg d2, if_neg d3, hH.2.2.1, e1, e2, e3, e4, y1, Option.bind_some, if_neg I10, z1, Option.bind_some, if_neg I10, rest8 hH hS ho.1 h1 h2 h3 (by omega) hT hc.1]
                      rfl
                    · unfold f_X9_hosts
                      rw [one_t r.1 g1, if_neg I10, one_t r.1 g2, if_neg I10, one_t r.1 g3, if_neg I10, st9_t g4, if_neg I10, if_neg d1, if_neg d2, if_neg d3, e1, e2, e3, e4, gd_nI (by omega) (by decide), gd_nI (by omega) (by decide), ix_nI (by omega), ix_nI (by omega), n_10 hN, y2, if_neg I10, z2, if_neg I10]
                      exact rest9 hN ho.1 h1 h2 h3 hd (by omega) hT r
        · exact fin_bad hN ho hc hb k1 k2 k3 k4 k5 (by unfold f_X8_hosts; rw [n_100 hN, hasP_t hp hc.1.1 g1, if_neg I10, hasP_t hp hc.1.1 g2, if_neg I10, hasP_t hp hc.1.1 g3, if_neg I10, st8_f g4, if_pos I00]; rfl) (fun M1 u => by unfold f_X9_hosts; rw [one_t ((u 0 (by decide) 1).trans r.1) g1, if_neg I10, one_t ((u 0 (by decide) 1).trans r.1) g2, if_neg I10, one_t ((u 0 (by decide) 1).trans r.1) g3, if_neg I10, st9_f g4, if_pos I00]; rfl)
      · exact fin_bad hN ho hc hb k1 k2 k3 k4 k5 (by unfold f_X8_hosts; rw [n_100 hN, hasP_t hp hc.1.1 g1, if_neg I10, hasP_t hp hc.1.1 g2, if_neg I10, hasP_f hc.1.1 g3, if_pos I00]; rfl) (fun M1 u => by unfold f_X9_hosts; rw [one_t ((u 0 (by decide) 1).trans r.1) g1, if_neg I10, one_t ((u 0 (by decide) 1).trans r.1) g2, if_neg I10, one_f ((u 0 (by decide) 1).trans r.1) g3, if_pos I00]; rfl)
    · exact fin_bad hN ho hc hb k1 k2 k3 k4 k5 (by unfold f_X8_hosts; rw [n_100 hN, hasP_t hp hc.1.1 g1, if_neg I10, hasP_f hc.1.1 g2, if_pos I00]; rfl) (fun M1 u => by unfold f_X9_hosts; rw [one_t ((u 0 (by decide) 1).trans r.1) g1, if_neg I10, one_f ((u 0 (by decide) 1).trans r.1) g2, if_pos I00]; rfl)
  · exact fin_bad hN ho hc hb k1 k2 k3 k4 k5 (by unfold f_X8_hosts; rw [n_100 hN, hasP_f hc.1.1 g1, if_pos I00]; rfl) (fun M1 u => by unfold f_X9_hosts; rw [one_f ((u 0 (by decide) 1).trans r.1) g1, if_pos I00]; rfl)
end Al49
