/-! kinds that fit, and the next question -/
section Al48
variable {E : Env1} {x m : Nat} {ad : Nat → Nat} {M : Mem} {h : Ho}
theorem n4 (j : Nat) : (4 : Int32) * nI j = nI (4 * j) := pk_mul 4 j
theorem cell_eq {R r c : Nat} (hW : WN E ad R) (hr : r < 6) (hc : c < 4) : f_X4_cell E M (ad R) (nI r) (nI c) = some (mi M (ad (R + 1)) (4 * r + c)) := by
  unfold f_X4_cell
  have e : nI r * (4 : Int32) + nI c = nI (4 * r + c) := by rw [show (4 : Int32) = nI 4 from rfl, pk_mul, nI_add, Nat.mul_comm]
  rw [e, show (24 : Int32) - 1 = nI 23 from by decide, wi_t (b := 0) ⟨nI_pos' (by omega), nI_le (a := 4 * r + c) (b := 23) (by omega) (by decide)⟩, if_neg I10, gd_nI (by omega) (by decide), ix_nI (by omega), hW]
def rowB (f : Nat → Int32) (a : Int32) (g : Int32 → Int32 → Int32) (r : Nat) : Bool := !decide (f (4 * r) = a) || decide (g (f (4 * r + 1)) (f (4 * r + 2)) = f (4 * r + 3))
def rowsB (f : Nat → Int32) (a : Int32) (g : Int32 → Int32 → Int32) : Nat → Bool
  | 0 => true
  | n + 1 => rowsB f a g n && rowB f a g n
theorem rowsB_f {f : Nat → Int32} {a : Int32} {g : Int32 → Int32 → Int32} {j : Nat} (hb : rowB f a g j = false) : ∀ n, j < n → rowsB f a g n = false := by
  intro n
  induction n with
  | zero => intro h; omega
  | succ n ih =>
    intro h
    show (rowsB f a g n && rowB f a g n) = false
    by_cases e : j = n
    · subst e; rw [hb, Bool.and_false]
    · rw [ih (by omega), Bool.false_and]
theorem rowB_t {f : Nat → Int32} {a : Int32} {g : Int32 → Int32 → Int32} {j : Nat} (h1 : f (4 * j) = a) (h2 : g (f (4 * j + 1)) (f (4 * j + 2)) = f (4 * j + 3)) : rowB f a g j = true := by unfold rowB; rw [decide_eq_true h1, decide_eq_true h2]; rfl
theorem rowB_n {f : Nat → Int32} {a : Int32} {g : Int32 → Int32 → Int32} {j : Nat} (h1 : ¬ f (4 * j) = a) : rowB f a g j = true := by unfold rowB; rw [decide_eq_false h1]; rfl
theorem rowB_f {f : Nat → Int32} {a : Int32} {g : Int32 → Int32 → Int32} {j : Nat} (h1 : f (4 * j) = a) (h2 : ¬ g (f (4 * j + 1)) (f (4 * j + 2)) = f (4 * j + 3)) : rowB f a g j = false := by unfold rowB; rw [decide_eq_true h1, decide_eq_false h2]; rfl
theorem fl01 (b : Bool) : ((if b then (1 : Int32) else 0) = 0) = (b = false) := by cases b <;> simp
/-! questions -/
def cntB (set : Nat) (g : Nat → Int32) (y : Int32) (n : Nat) : Nat := sumO n (fun j => if set.testBit j then (if g j = y then 1 else 0) else 0)
def mostN (set : Nat) (g : Nat → Int32) : Nat → Nat
  | 0 => 0
  | n + 1 => if set.testBit n then max (mostN set g n) (cntB set g (g n) 6) else mostN set g n
theorem cntB_le (set : Nat) (g : Nat → Int32) (y : Int32) : cntB set g y 6 ≤ 6 := by
  have := sum_le (f := fun j => if set.testBit j then (if g j = y then 1 else 0) else 0) (b := 1) 6 (fun i _ => by split <;> first | (split <;> omega) | omega)
  unfold cntB
  omega
theorem mostN_le (set : Nat) (g : Nat → Int32) : ∀ n, mostN set g n ≤ 6 := by
  intro n
  induction n with
  | zero => exact Nat.zero_le _
  | succ n ih =>
    show (if _ then _ else _) ≤ 6
    split
    · exact Nat.max_le.mpr ⟨ih, cntB_le _ _ _⟩
    · exact ih
theorem jmax_n {a b : Nat} (ha : a < 2 ^ 31) (hb : b < 2 ^ 31) : jmax (nI a) (nI b) = nI (max a b) := by
  unfold jmax
  by_cases h : a < b
  · rw [if_pos (nI_lt h hb), Nat.max_eq_right (by omega)]
  · rw [if_neg (nI_nlt (a := a) (b := b) (by omega) ha), Nat.max_eq_left (by omega)]
theorem greater_n (E : Env1) (M : Mem) {a b : Nat} (ha : a < 2 ^ 31) (hb : b < 2 ^ 31) : f_X9_greater E M (nI a) (nI b) = nI (max a b) := by
  unfold f_X9_greater
  by_cases h : a ≤ b
  · rw [if_pos (nI_le h hb), Nat.max_eq_right h]
  · rw [if_neg (nI_ge (a := b) (b := a) (by omega) ha), Nat.max_eq_left (by omega)]
theorem lesser_n (E : Env1) (M : Mem) {a b : Nat} (ha : a < 2 ^ 31) (hb : b < 2 ^ 31) : f_X9_lesser E M (nI a) (nI b) = nI (min a b) := by
  unfold f_X9_lesser
  by_cases h : b ≤ a
  · rw [if_pos (nI_le h ha), Nat.min_eq_right h]
  · rw [if_neg (nI_ge (a := a) (b := b) (by omega) hb), Nat.min_eq_left (by omega)]
def gW (which t y : Int32) (k : Nat) : Int32 := if which = 0 then f_X9_worthBy default default (nI k) t y else f_X9_wantsBy default default (nI k) y t
theorem alike9 {set : Nat} (hs : set < 64) (which t y : Int32) : f_X9_alike E M (nI set) which t y = some (nI (mostN set (gW which t y) 6)) := by
  unfold f_X9_alike
  obtain ⟨n, e⟩ := loop_FU (fun q (a : Int32) w => f_X9_alike_L6 E M q (nI set) which t y a w) (fun j => nI (mostN set (gW which t y) j)) 6 (by decide) (by
    intro n i hi
    show b_X9_alike_L6 E M (f_X9_alike_L6 E M n) (nI set) which t y (nI (mostN set (gW which t y) i)) (nI i) = _
    unfold b_X9_alike_L6
    rw [if_neg (show ¬ (5 : Int32) < nI (i) from nI_nlt (a := 5) (b := i) (by omega) (by decide)), nm_v]
    show f_X9_alike_L41 E M (f_X9_alike_L6 E M n) FU (nI set) which t y (nI (mostN set (gW which t y) i)) (nI i) 0 (gW which t y i) 0 = _
    obtain ⟨n', e'⟩ := loop_FU (fun q (a : Int32) w => f_X9_alike_L41 E M (f_X9_alike_L6 E M n) q (nI set) which t y (nI (mostN set (gW which t y) i)) (nI i) a (gW which t y i) w) (fun j => nI (if set.testBit i then cntB set (gW which t y) (gW which t y i) j else 0)) 6 (by decide) (by
      intro n' j hj
      show b_X9_alike_L41 E M (f_X9_alike_L6 E M n) (f_X9_alike_L41 E M (f_X9_alike_L6 E M n) n') (nI set) which t y _ (nI i) _ (gW which t y i) (nI j) = _
      unfold b_X9_alike_L41
      rw [if_neg (show ¬ (5 : Int32) < nI (j) from nI_nlt (a := 5) (b := j) (by omega) (by decide)), nm_v]
      rw [nm_v, has_eq (by omega) (by omega), has_eq (by omega) (by omega)]
      show f_X9_alike_L41 E M (f_X9_alike_L6 E M n) n' (nI set) which t y _ (nI i) (_ + if _ then 0 else if _ then 0 else if gW which t y i = gW which t y j then 1 else 0) (gW which t y i) (nI j + 1) = f_X9_alike_L41 E M (f_X9_alike_L6 E M n) n' (nI set) which t y _ (nI i) (nI (if set.testBit i then cntB set (gW which t y) (gW which t y i) j + (if set.testBit j then (if gW which t y j = gW which t y i then 1 else 0) else 0) else 0)) _ (nI (j + 1))
      rw [nI_1 j]
      congr 1
      simp only [fl01]
      cases hi' : set.testBit i
      · simp
      · cases hj' : set.testBit j
        · simp
        · by_cases ee : gW which t y i = gW which t y j
          · simp [ee, nI_1]
          · simp [ee, Ne.symm ee])
    have z0 : nI (if set.testBit i then cntB set (gW which t y) (gW which t y i) 0 else 0) = 0 := by split <;> rfl
    rw [z0] at e'
    refine e'.trans ?_
    show b_X9_alike_L41 E M (f_X9_alike_L6 E M n) (f_X9_alike_L41 E M (f_X9_alike_L6 E M n) n') (nI set) which t y _ (nI i) _ (gW which t y i) (nI 6) = _
    unfold b_X9_alike_L41
    have l1 := mostN_le set (gW which t y) i
    have l2 := cntB_le set (gW which t y) (gW which t y i)
    rw [if_pos (by decide), greater_n E M (by omega) (by split <;> omega), nI_1]
    show _ = f_X9_alike_L6 E M n (nI set) which t y (nI (if set.testBit i then max (mostN set (gW which t y) i) (cntB set (gW which t y) (gW which t y i) 6) else mostN set (gW which t y) i)) _
    cases set.testBit i
    · rw [if_neg (by decide), if_neg (by decide), Nat.max_zero]
    · rfl)
  refine e.trans ?_
  show b_X9_alike_L6 E M (f_X9_alike_L6 E M n) (nI set) which t y _ (nI 6) = _
  unfold b_X9_alike_L6
  rw [if_pos (by decide)]
def bqS (c0 : Nat) (code : Nat → Int32) (val : Nat → Nat) : Nat → Int32 × Nat
  | 0 => (-1, c0)
  | q + 1 => if (bqS c0 code val q).2 ≤ val q then bqS c0 code val q else (code q, val q)
theorem bq_eq {c0 c1 : Nat} {code : Nat → Int32} {val : Nat → Nat} (h0 : 6 < c0) (h1 : 6 < c1) (hv : ∀ q, val q ≤ 6) : ∀ q, bqS c0 code val (q + 1) = bqS c1 code val (q + 1) := by
  intro q
  induction q with
  | zero =>
    show (if c0 ≤ val 0 then _ else _) = (if c1 ≤ val 0 then _ else _)
    rw [if_neg (by have := hv 0; omega), if_neg (by have := hv 0; omega)]
  | succ q ih =>
    show (if (bqS c0 code val (q + 1)).2 ≤ _ then bqS c0 code val (q + 1) else _) = (if (bqS c1 code val (q + 1)).2 ≤ _ then bqS c1 code val (q + 1) else _)
    rw [ih]
theorem bq_le {c0 : Nat} {code : Nat → Int32} {val : Nat → Nat} (h0 : 6 < c0) (hv : ∀ q, val q ≤ 6) : ∀ q, (bqS c0 code val q).2 ≤ c0 := by
  intro q
  induction q with
  | zero => exact Nat.le_refl _
  | succ q ih =>
    show (if (bqS c0 code val q).2 ≤ val q then bqS c0 code val q else (code q, val q)).2 ≤ c0
    split
    · exact ih
    · show val q ≤ c0
      have := hv q
      omega
/-- one more question, as the reference takes it -/
theorem bq_ref (E : Env1) (M : Mem) {c0 : Nat} {code : Nat → Int32} {val : Nat → Nat} (h0 : 6 < c0) (h1 : c0 < 2 ^ 31) (hv : ∀ q, val q ≤ 6) (q : Nat) : (if nI (bqS c0 code val q).2 ≤ nI (val q) then (bqS c0 code val q).1 else code q) = (bqS c0 code val (q + 1)).1 ∧ f_X9_lesser E M (nI (bqS c0 code val q).2) (nI (val q)) = nI (bqS c0 code val (q + 1)).2 := by
  have l1 := bq_le (code := code) h0 hv q
  have l2 := hv q
  rw [lesser_n E M (by omega) (by omega)]
  show (if nI (bqS c0 code val q).2 ≤ nI (val q) then (bqS c0 code val q).1 else code q) = (if (bqS c0 code val q).2 ≤ val q then bqS c0 code val q else (code q, val q)).1 ∧ nI (min (bqS c0 code val q).2 (val q)) = nI (if (bqS c0 code val q).2 ≤ val q then bqS c0 code val q else (code q, val q)).2
  by_cases e : (bqS c0 code val q).2 ≤ val q
  · rw [if_pos e, if_pos (nI_le e (by omega)), Nat.min_eq_left e]
    exact ⟨rfl, rfl⟩
  · rw [if_neg e, if_neg (nI_ge (a := val q) (b := (bqS c0 code val q).2) (by omega) (by omega)), Nat.min_eq_right (by omega)]
    exact ⟨rfl, rfl⟩
/-! stepKinds -/
theorem fits_k5 {R n : Nat} {f : Nat → Int32} {a : Int32} {k v : Nat} (hW : WN E ad R) (hn : n ≤ 6) (hk : k < 6) (c : CR ad M R n 4 f) : f_X1_fits_k5 E M v (nI k) (ad R) a = some (if rowsB f a (fun x t => f_X9_wantsBy E M (nI k) x t) n then 1 else 0) := by
  unfold f_X1_fits_k5
  refine loop_QFU (fun q (_ : Unit) w => f_X1_fits_k5_L3 E M q v (nI k) (ad R) a w) (fun j _ => rowsB f a (fun x t => f_X9_wantsBy E M (nI k) x t) j = true) (fun y => y = some (if rowsB f a (fun x t => f_X9_wantsBy E M (nI k) x t) n then 1 else 0)) n (by omega) () rfl ?_ ?_
  · intro q j _ hj hb
    show (∃ s', b_X1_fits_k5_L3 E M (f_X1_fits_k5_L3 E M q) v (nI k) (ad R) a (nI j) = _ ∧ _) ∨ b_X1_fits_k5_L3 E M (f_X1_fits_k5_L3 E M q) v (nI k) (ad R) a (nI j) = _
    unfold b_X1_fits_k5_L3
    have c0 : f_X4_cell E M (ad R) (nI j) 0 = some (f (4 * j)) := (cell_eq (c := 0) hW (by omega) (by omega)).trans (congrArg some (c.2 j 0 hj (by omega)))
    have c1 : f_X4_cell E M (ad R) (nI j) 1 = some (f (4 * j + 1)) := (cell_eq (c := 1) hW (by omega) (by omega)).trans (congrArg some (c.2 j 1 hj (by omega)))
    have c2 : f_X4_cell E M (ad R) (nI j) 2 = some (f (4 * j + 2)) := (cell_eq (c := 2) hW (by omega) (by omega)).trans (congrArg some (c.2 j 2 hj (by omega)))
    have c3 : f_X4_cell E M (ad R) (nI j) 3 = some (f (4 * j + 3)) := (cell_eq (c := 3) hW (by omega) (by omega)).trans (congrArg some (c.2 j 3 hj (by omega)))
    rw [c.1, if_neg (le_n hj (by omega)), c0, Option.bind_some, nm_v]
    by_cases ea : f (4 * j) = a
    · rw [if_pos ea, if_neg I10, c1, Option.bind_some, c2, Option.bind_some, c3, Option.bind_some, ans6 E E M M v hk]
      by_cases eg : (fun x t => f_X9_wantsBy E M (nI k) x t) (f (4 * j + 1)) (f (4 * j + 2)) = f (4 * j + 3)
      · rw [if_pos eg, nI_1]
        refine Or.inl ⟨(), rfl, ?_⟩
        show (rowsB f a _ j && rowB f a _ j) = true
        rw [hb, rowB_t ea eg]
        rfl
      · rw [if_neg eg]
        refine Or.inr ?_
        rw [rowsB_f (rowB_f ea eg) n hj]
        rfl
    · rw [if_neg ea, if_pos rfl, nI_1]
      refine Or.inl ⟨(), rfl, ?_⟩
      show (rowsB f a _ j && rowB f a _ j) = true
      rw [hb, rowB_n ea]
      rfl
  · intro q _ hb
    show b_X1_fits_k5_L3 E M (f_X1_fits_k5_L3 E M q) v (nI k) (ad R) a (nI n) = _
    unfold b_X1_fits_k5_L3
    rw [c.1, if_pos (nI_le (Nat.le_refl _) (by omega)), hb]
    rfl
theorem fitting_k5 {R n : Nat} {f : Nat → Int32} {a : Int32} {v : Nat} (hW : WN E ad R) (hn : n ≤ 6) (c : CR ad M R n 4 f) : f_X1_fitting_k5 E M v (ad R) a = some (nI (setOf 6 (fun k => rowsB f a (fun x t => f_X9_wantsBy E M (nI k) x t) n))) := by
  unfold f_X1_fitting_k5
  obtain ⟨q, e⟩ := loop_FU (fun q (s : Int32) w => f_X1_fitting_k5_L5 E M q v (ad R) a s w) (fun j => nI (setOf j (fun k => rowsB f a (fun x t => f_X9_wantsBy E M (nI k) x t) n))) 6 (by decide) (by
    intro q j hj
    show b_X1_fitting_k5_L5 E M (f_X1_fitting_k5_L5 E M q) v (ad R) a _ (nI j) = _
    unfold b_X1_fitting_k5_L5
    rw [if_neg (lt6 hj), fits_k5 hW hn hj c, Option.bind_some, nI_1]
    show _ = f_X1_fitting_k5_L5 E M q v (ad R) a (nI (setOf j _ ||| if rowsB f a (fun x t => f_X9_wantsBy E M (nI j) x t) n then 2 ^ j else 0)) _
    cases rowsB f a (fun x t => f_X9_wantsBy E M (nI j) x t) n
    · rw [if_pos (by decide), if_neg (by decide), Nat.or_zero]
    · rw [if_neg (by decide), if_pos rfl, nm_v, shl1 (by omega), nI_or])
  refine e.trans ?_
  show b_X1_fitting_k5_L5 E M (f_X1_fitting_k5_L5 E M q) v (ad R) a _ (nI 6) = _
  unfold b_X1_fitting_k5_L5
  rw [if_pos (by decide)]
theorem stepKinds_eq (hN : Nm E (ad 50) (ad 0) ad) {n : Nat} {f : Nat → Int32} {a : Int32} (hn : n ≤ 6) (hm : mi M (ad 0) 5 = nI n) (hf : ∀ k, k < 4 * n → mi M (ad 13) k = f k) : f_X9_stepKinds E M (ad 0) a = some (nI (setOf 6 (fun k => rowsB f a (fun x t => f_X9_wantsBy E M (nI k) x t) n))) := by
  unfold f_X9_stepKinds
  obtain ⟨q, e⟩ := loop_FU (fun q (s : Int32) w => f_X9_stepKinds_L4 E M q (ad 0) a s w) (fun j => nI (setOf j (fun k => rowsB f a (fun x t => f_X9_wantsBy E M (nI k) x t) n))) 6 (by decide) (by
    intro q j hj
    show b_X9_stepKinds_L4 E M (f_X9_stepKinds_L4 E M q) (ad 0) a (nI (setOf j (fun k => rowsB f a (fun x t => f_X9_wantsBy E M (nI k) x t) n))) (nI j) = _
    unfold b_X9_stepKinds_L4
    rw [if_neg (show ¬ (5 : Int32) < nI (j) from nI_nlt (a := 5) (b := j) (by omega) (by decide))]
    obtain ⟨q', e'⟩ := loop_FU (fun q' (s : Int32) w => f_X9_stepKinds_L15 E M (f_X9_stepKinds_L4 E M q) q' (ad 0) a (nI (setOf j (fun k => rowsB f a (fun x t => f_X9_wantsBy E M (nI k) x t) n))) (nI j) s (4 * w)) (fun r => if rowsB f a (fun x t => f_X9_wantsBy E M (nI j) x t) r then 1 else 0) n (by omega) (by
      intro q' r hr
      show b_X9_stepKinds_L15 E M (f_X9_stepKinds_L4 E M q) (f_X9_stepKinds_L15 E M (f_X9_stepKinds_L4 E M q) q') (ad 0) a (nI (setOf j (fun k => rowsB f a (fun x t => f_X9_wantsBy E M (nI k) x t) n))) (nI j) _ (4 * nI r) = f_X9_stepKinds_L15 E M (f_X9_stepKinds_L4 E M q) q' (ad 0) a _ (nI j) (if rowsB f a (fun x t => f_X9_wantsBy E M (nI j) x t) r && rowB f a (fun x t => f_X9_wantsBy E M (nI j) x t) r then 1 else 0) (4 * nI (r + 1))
      unfold b_X9_stepKinds_L15
      have e1 : nI (4 * r) + (1 : Int32) = nI (4 * r + 1) := nI_add _ 1
      have e2 : nI (4 * r) + (2 : Int32) = nI (4 * r + 2) := nI_add _ 2
      have e3 : nI (4 * r) + (3 : Int32) = nI (4 * r + 3) := nI_add _ 3
      have e4 : nI (4 * r) + (4 : Int32) = nI (4 * (r + 1)) := nI_add _ 4
      rw [n4 r, n4 (r + 1), hm, n4 n, if_neg (nI_ge (a := 4 * r) (b := 4 * n) (by omega) (by omega)), e1, e2, e3, e4, gd_nI (by omega) (by decide), gd_nI (by omega) (by decide), gd_nI (by omega) (by decide), ix_nI (by omega), ix_nI (by omega), ix_nI (by omega), n_13 hN, hf _ (by omega), hf _ (by omega), hf _ (by omega), nm_v]
      simp only [fl01]
      cases hb : rowsB f a (fun x t => f_X9_wantsBy E M (nI j) x t) r
      · rw [if_pos rfl, Bool.false_and]; rfl
      · rw [if_neg (by decide), gd_nI (by omega) (by decide), ix_nI (by omega), hf _ (by omega), Bool.true_and]
        by_cases ea : f (4 * r) = a
        · rw [if_pos ea]
          by_cases eg : (fun x t => f_X9_wantsBy E M (nI j) x t) (f (4 * r + 1)) (f (4 * r + 2)) = f (4 * r + 3)
          · rw [if_pos eg, if_neg I10, rowB_t ea eg]; rfl
          · rw [if_neg eg, if_pos rfl, rowB_f ea eg]; rfl
        · rw [if_neg ea, rowB_n ea]; rfl)
    refine e'.trans ?_
    show b_X9_stepKinds_L15 E M (f_X9_stepKinds_L4 E M q) (f_X9_stepKinds_L15 E M (f_X9_stepKinds_L4 E M q) q') (ad 0) a (nI (setOf j (fun k => rowsB f a (fun x t => f_X9_wantsBy E M (nI k) x t) n))) (nI j) _ (4 * nI n) = f_X9_stepKinds_L4 E M q (ad 0) a (nI (setOf j (fun k => rowsB f a (fun x t => f_X9_wantsBy E M (nI k) x t) n) ||| if rowsB f a (fun x t => f_X9_wantsBy E M (nI j) x t) n then 2 ^ j else 0)) (nI (j + 1))
    unfold b_X9_stepKinds_L15
    rw [hm, if_pos (by rw [n4]; exact nI_le (Nat.le_refl _) (by omega)), nm_v, shl1 (by omega), nI_1]
    simp only [fl01]
    cases rowsB f a (fun x t => f_X9_wantsBy E M (nI j) x t) n
    · rw [if_pos rfl, if_neg (by decide)]; exact congrArg (fun z => f_X9_stepKinds_L4 E M q (ad 0) a z (nI (j + 1))) (nI_or _ 0)
    · rw [if_neg (by decide), if_pos rfl, nI_or])
  refine e.trans ?_
  show b_X9_stepKinds_L4 E M (f_X9_stepKinds_L4 E M q) (ad 0) a _ (nI 6) = _
  unfold b_X9_stepKinds_L4
  rw [if_pos (by decide)]
theorem gW_k5 (E : Env1) (M : Mem) {t y : Int32} {k v : Nat} (hk : k < 6) : f_X6_answer E M v (nI k) y t = gW 1 t y k := by
  rw [ans6 E E M M v hk]
  unfold gW
  rw [if_neg (by decide)]
  rfl
theorem alike_k5 {set v : Nat} (hs : set < 64) (z t y : Int32) : f_X1_alike_k5 E M v (nI set) z y t = some (nI (cntB set (gW 1 t y) z 6)) := by
  unfold f_X1_alike_k5
  obtain ⟨n, e⟩ := loop_FU (fun q (a : Int32) w => f_X1_alike_k5_L6 E M q v (nI set) z y t a w) (fun j => nI (cntB set (gW 1 t y) z j)) 6 (by decide) (by
    intro n j hj
    show b_X1_alike_k5_L6 E M (f_X1_alike_k5_L6 E M n) v (nI set) z y t (nI (cntB set (gW 1 t y) z j)) (nI j) = f_X1_alike_k5_L6 E M n v (nI set) z y t (nI (cntB set (gW 1 t y) z j + (if set.testBit j then (if gW 1 t y j = z then 1 else 0) else 0))) (nI (j + 1))
    unfold b_X1_alike_k5_L6
    simp only [if_neg (lt6 hj), bitN (show set < 2 ^ 31 by omega) (show j < 32 by omega), gW_k5 E M hj, nI_1]
    cases set.testBit j
    · rw [if_neg (by decide), if_neg (by decide)]; try rfl
    · rw [if_pos rfl, if_pos rfl]
      by_cases ez : gW 1 t y j = z
      · rw [if_pos ez, if_pos ez]
      · rw [if_neg ez, if_neg ez]; try rfl)
  refine e.trans ?_
  show b_X1_alike_k5_L6 E M (f_X1_alike_k5_L6 E M n) v (nI set) z y t _ (nI 6) = _
  unfold b_X1_alike_k5_L6
  rw [if_pos (by decide)]
theorem most_k5 {set v : Nat} (hs : set < 64) (t y : Int32) : f_X1_mostAlike_k5 E M v (nI set) y t = some (nI (mostN set (gW 1 t y) 6)) := by
  unfold f_X1_mostAlike_k5
  obtain ⟨n, e⟩ := loop_FU (fun q (a : Int32) w => f_X1_mostAlike_k5_L6 E M q v (nI set) y t a w) (fun j => nI (mostN set (gW 1 t y) j)) 6 (by decide) (by
    intro n j hj
    show b_X1_mostAlike_k5_L6 E M (f_X1_mostAlike_k5_L6 E M n) v (nI set) y t (nI (mostN set (gW 1 t y) j)) (nI j) = f_X1_mostAlike_k5_L6 E M n v (nI set) y t (nI (if set.testBit j then max (mostN set (gW 1 t y) j) (cntB set (gW 1 t y) (gW 1 t y j) 6) else mostN set (gW 1 t y) j)) (nI (j + 1))
    unfold b_X1_mostAlike_k5_L6
    have l1 := mostN_le set (gW 1 t y) j
    have l2 := cntB_le set (gW 1 t y) (gW 1 t y j)
    simp only [if_neg (lt6 hj), bitN (show set < 2 ^ 31 by omega) (show j < 32 by omega), gW_k5 E M hj, alike_k5 hs, Option.bind_some, jmax_n (show mostN set (gW 1 t y) j < 2 ^ 31 by omega) (show cntB set (gW 1 t y) (gW 1 t y j) 6 < 2 ^ 31 by omega), nI_1]
    cases set.testBit j
    · rw [if_neg (by decide), if_neg (by decide)]
    · rw [if_pos rfl, if_pos rfl])
  refine e.trans ?_
  show b_X1_mostAlike_k5_L6 E M (f_X1_mostAlike_k5_L6 E M n) v (nI set) y t _ (nI 6) = _
  unfold b_X1_mostAlike_k5_L6
  rw [if_pos (by decide)]
/-! peopleKinds -/
theorem fits_k1 {R n : Nat} {f : Nat → Int32} {a : Int32} {k v : Nat} (hW : WN E ad R) (hn : n ≤ 6) (hk : k < 6) (c : CR ad M R n 4 f) : f_X1_fits_k1 E M v (nI k) (ad R) a = some (if rowsB f a (fun x t => f_X9_worthBy E M (nI k) t x) n then 1 else 0) := by
  unfold f_X1_fits_k1
  refine loop_QFU (fun q (_ : Unit) w => f_X1_fits_k1_L3 E M q v (nI k) (ad R) a w) (fun j _ => rowsB f a (fun x t => f_X9_worthBy E M (nI k) t x) j = true) (fun y => y = some (if rowsB f a (fun x t => f_X9_worthBy E M (nI k) t x) n then 1 else 0)) n (by omega) () rfl ?_ ?_
  · intro q j _ hj hb
    show (∃ s', b_X1_fits_k1_L3 E M (f_X1_fits_k1_L3 E M q) v (nI k) (ad R) a (nI j) = _ ∧ _) ∨ b_X1_fits_k1_L3 E M (f_X1_fits_k1_L3 E M q) v (nI k) (ad R) a (nI j) = _
    unfold b_X1_fits_k1_L3
    have c0 : f_X4_cell E M (ad R) (nI j) 0 = some (f (4 * j)) := (cell_eq (c := 0) hW (by omega) (by omega)).trans (congrArg some (c.2 j 0 hj (by omega)))
    have c1 : f_X4_cell E M (ad R) (nI j) 1 = some (f (4 * j + 1)) := (cell_eq (c := 1) hW (by omega) (by omega)).trans (congrArg some (c.2 j 1 hj (by omega)))
    have c2 : f_X4_cell E M (ad R) (nI j) 2 = some (f (4 * j + 2)) := (cell_eq (c := 2) hW (by omega) (by omega)).trans (congrArg some (c.2 j 2 hj (by omega)))
    have c3 : f_X4_cell E M (ad R) (nI j) 3 = some (f (4 * j + 3)) := (cell_eq (c := 3) hW (by omega) (by omega)).trans (congrArg some (c.2 j 3 hj (by omega)))
    rw [c.1, if_neg (le_n hj (by omega)), c0, Option.bind_some, nm_v]
    by_cases ea : f (4 * j) = a
    · rw [if_pos ea, if_neg I10, c1, Option.bind_some, c2, Option.bind_some, c3, Option.bind_some, ans2 E E M M v hk]
      by_cases eg : (fun x t => f_X9_worthBy E M (nI k) t x) (f (4 * j + 1)) (f (4 * j + 2)) = f (4 * j + 3)
      · rw [if_pos eg, nI_1]
        refine Or.inl ⟨(), rfl, ?_⟩
        show (rowsB f a _ j && rowB f a _ j) = true
        rw [hb, rowB_t ea eg]
        rfl
      · rw [if_neg eg]
        refine Or.inr ?_
        rw [rowsB_f (rowB_f ea eg) n hj]
        rfl
    · rw [if_neg ea, if_pos rfl, nI_1]
      refine Or.inl ⟨(), rfl, ?_⟩
      show (rowsB f a _ j && rowB f a _ j) = true
      rw [hb, rowB_n ea]
      rfl
  · intro q _ hb
    show b_X1_fits_k1_L3 E M (f_X1_fits_k1_L3 E M q) v (nI k) (ad R) a (nI n) = _
    unfold b_X1_fits_k1_L3
    rw [c.1, if_pos (nI_le (Nat.le_refl _) (by omega)), hb]
    rfl
theorem fitting_k1 {R n : Nat} {f : Nat → Int32} {a : Int32} {v : Nat} (hW : WN E ad R) (hn : n ≤ 6) (c : CR ad M R n 4 f) : f_X1_fitting_k1 E M v (ad R) a = some (nI (setOf 6 (fun k => rowsB f a (fun x t => f_X9_worthBy E M (nI k) t x) n))) := by
  unfold f_X1_fitting_k1
  obtain ⟨q, e⟩ := loop_FU (fun q (s : Int32) w => f_X1_fitting_k1_L5 E M q v (ad R) a s w) (fun j => nI (setOf j (fun k => rowsB f a (fun x t => f_X9_worthBy E M (nI k) t x) n))) 6 (by decide) (by
    intro q j hj
    show b_X1_fitting_k1_L5 E M (f_X1_fitting_k1_L5 E M q) v (ad R) a _ (nI j) = _
    unfold b_X1_fitting_k1_L5
    rw [if_neg (lt6 hj), fits_k1 hW hn hj c, Option.bind_some, nI_1]
    show _ = f_X1_fitting_k1_L5 E M q v (ad R) a (nI (setOf j _ ||| if rowsB f a (fun x t => f_X9_worthBy E M (nI j) t x) n then 2 ^ j else 0)) _
    cases rowsB f a (fun x t => f_X9_worthBy E M (nI j) t x) n
    · rw [if_pos (by decide), if_neg (by decide), Nat.or_zero]
    · rw [if_neg (by decide), if_pos rfl, nm_v, shl1 (by omega), nI_or])
  refine e.trans ?_
  show b_X1_fitting_k1_L5 E M (f_X1_fitting_k1_L5 E M q) v (ad R) a _ (nI 6) = _
  unfold b_X1_fitting_k1_L5
  rw [if_pos (by decide)]
theorem peopleKinds_eq (hN : Nm E (ad 50) (ad 0) ad) {n : Nat} {f : Nat → Int32} {a : Int32} (hn : n ≤ 6) (hm : mi M (ad 0) 6 = nI n) (hf : ∀ k, k < 4 * n → mi M (ad 14) k = f k) : f_X9_peopleKinds E M (ad 0) a = some (nI (setOf 6 (fun k => rowsB f a (fun x t => f_X9_worthBy E M (nI k) t x) n))) := by
  unfold f_X9_peopleKinds
  obtain ⟨q, e⟩ := loop_FU (fun q (s : Int32) w => f_X9_peopleKinds_L4 E M q (ad 0) a s w) (fun j => nI (setOf j (fun k => rowsB f a (fun x t => f_X9_worthBy E M (nI k) t x) n))) 6 (by decide) (by
    intro q j hj
    show b_X9_peopleKinds_L4 E M (f_X9_peopleKinds_L4 E M q) (ad 0) a (nI (setOf j (fun k => rowsB f a (fun x t => f_X9_worthBy E M (nI k) t x) n))) (nI j) = _
    unfold b_X9_peopleKinds_L4
    rw [if_neg (show ¬ (5 : Int32) < nI (j) from nI_nlt (a := 5) (b := j) (by omega) (by decide))]
    obtain ⟨q', e'⟩ := loop_FU (fun q' (s : Int32) w => f_X9_peopleKinds_L15 E M (f_X9_peopleKinds_L4 E M q) q' (ad 0) a (nI (setOf j (fun k => rowsB f a (fun x t => f_X9_worthBy E M (nI k) t x) n))) (nI j) s (4 * w)) (fun r => if rowsB f a (fun x t => f_X9_worthBy E M (nI j) t x) r then 1 else 0) n (by omega) (by
      intro q' r hr
      show b_X9_peopleKinds_L15 E M (f_X9_peopleKinds_L4 E M q) (f_X9_peopleKinds_L15 E M (f_X9_peopleKinds_L4 E M q) q') (ad 0) a (nI (setOf j (fun k => rowsB f a (fun x t => f_X9_worthBy E M (nI k) t x) n))) (nI j) _ (4 * nI r) = f_X9_peopleKinds_L15 E M (f_X9_peopleKinds_L4 E M q) q' (ad 0) a _ (nI j) (if rowsB f a (fun x t => f_X9_worthBy E M (nI j) t x) r && rowB f a (fun x t => f_X9_worthBy E M (nI j) t x) r then 1 else 0) (4 * nI (r + 1))
      unfold b_X9_peopleKinds_L15
      have e1 : nI (4 * r) + (1 : Int32) = nI (4 * r + 1) := nI_add _ 1
      have e2 : nI (4 * r) + (2 : Int32) = nI (4 * r + 2) := nI_add _ 2
      have e3 : nI (4 * r) + (3 : Int32) = nI (4 * r + 3) := nI_add _ 3
      have e4 : nI (4 * r) + (4 : Int32) = nI (4 * (r + 1)) := nI_add _ 4
      rw [n4 r, n4 (r + 1), hm, n4 n, if_neg (nI_ge (a := 4 * r) (b := 4 * n) (by omega) (by omega)), e1, e2, e3, e4, gd_nI (by omega) (by decide), gd_nI (by omega) (by decide), gd_nI (by omega) (by decide), ix_nI (by omega), ix_nI (by omega), ix_nI (by omega), n_14 hN, hf _ (by omega), hf _ (by omega), hf _ (by omega), nm_v]
      simp only [fl01]
      cases hb : rowsB f a (fun x t => f_X9_worthBy E M (nI j) t x) r
      · rw [if_pos rfl, Bool.false_and]; rfl
      · rw [if_neg (by decide), gd_nI (by omega) (by decide), ix_nI (by omega), hf _ (by omega), Bool.true_and]
        by_cases ea : f (4 * r) = a
        · rw [if_pos ea]
          by_cases eg : (fun x t => f_X9_worthBy E M (nI j) t x) (f (4 * r + 1)) (f (4 * r + 2)) = f (4 * r + 3)
          · rw [if_pos eg, if_neg I10, rowB_t ea eg]; rfl
          · rw [if_neg eg, if_pos rfl, rowB_f ea eg]; rfl
        · rw [if_neg ea, rowB_n ea]; rfl)
    refine e'.trans ?_
    show b_X9_peopleKinds_L15 E M (f_X9_peopleKinds_L4 E M q) (f_X9_peopleKinds_L15 E M (f_X9_peopleKinds_L4 E M q) q') (ad 0) a (nI (setOf j (fun k => rowsB f a (fun x t => f_X9_worthBy E M (nI k) t x) n))) (nI j) _ (4 * nI n) = f_X9_peopleKinds_L4 E M q (ad 0) a (nI (setOf j (fun k => rowsB f a (fun x t => f_X9_worthBy E M (nI k) t x) n) ||| if rowsB f a (fun x t => f_X9_worthBy E M (nI j) t x) n then 2 ^ j else 0)) (nI (j + 1))
    unfold b_X9_peopleKinds_L15
    rw [hm, if_pos (by rw [n4]; exact nI_le (Nat.le_refl _) (by omega)), nm_v, shl1 (by omega), nI_1]
    simp only [fl01]
    cases rowsB f a (fun x t => f_X9_worthBy E M (nI j) t x) n
    · rw [if_pos rfl, if_neg (by decide)]; exact congrArg (fun z => f_X9_peopleKinds_L4 E M q (ad 0) a z (nI (j + 1))) (nI_or _ 0)
    · rw [if_neg (by decide), if_pos rfl, nI_or])
  refine e.trans ?_
  show b_X9_peopleKinds_L4 E M (f_X9_peopleKinds_L4 E M q) (ad 0) a _ (nI 6) = _
  unfold b_X9_peopleKinds_L4
  rw [if_pos (by decide)]
theorem gW_k1 (E : Env1) (M : Mem) {t y : Int32} {k v : Nat} (hk : k < 6) : f_X2_answer E M v (nI k) y t = gW 0 t y k := by
  rw [ans2 E E M M v hk]
  unfold gW
  rw [if_pos rfl]
  rfl
theorem alike_k1 {set v : Nat} (hs : set < 64) (z t y : Int32) : f_X1_alike_k1 E M v (nI set) z y t = some (nI (cntB set (gW 0 t y) z 6)) := by
  unfold f_X1_alike_k1
  obtain ⟨n, e⟩ := loop_FU (fun q (a : Int32) w => f_X1_alike_k1_L6 E M q v (nI set) z y t a w) (fun j => nI (cntB set (gW 0 t y) z j)) 6 (by decide) (by
    intro n j hj
    show b_X1_alike_k1_L6 E M (f_X1_alike_k1_L6 E M n) v (nI set) z y t (nI (cntB set (gW 0 t y) z j)) (nI j) = f_X1_alike_k1_L6 E M n v (nI set) z y t (nI (cntB set (gW 0 t y) z j + (if set.testBit j then (if gW 0 t y j = z then 1 else 0) else 0))) (nI (j + 1))
    unfold b_X1_alike_k1_L6
    simp only [if_neg (lt6 hj), bitN (show set < 2 ^ 31 by omega) (show j < 32 by omega), gW_k1 E M hj, nI_1]
    cases set.testBit j
    · rw [if_neg (by decide), if_neg (by decide)]; try rfl
    · rw [if_pos rfl, if_pos rfl]
      by_cases ez : gW 0 t y j = z
      · rw [if_pos ez, if_pos ez]
      · rw [if_neg ez, if_neg ez]; try rfl)
  refine e.trans ?_
  show b_X1_alike_k1_L6 E M (f_X1_alike_k1_L6 E M n) v (nI set) z y t _ (nI 6) = _
  unfold b_X1_alike_k1_L6
  rw [if_pos (by decide)]
theorem most_k1 {set v : Nat} (hs : set < 64) (t y : Int32) : f_X1_mostAlike_k1 E M v (nI set) y t = some (nI (mostN set (gW 0 t y) 6)) := by
  unfold f_X1_mostAlike_k1
  obtain ⟨n, e⟩ := loop_FU (fun q (a : Int32) w => f_X1_mostAlike_k1_L6 E M q v (nI set) y t a w) (fun j => nI (mostN set (gW 0 t y) j)) 6 (by decide) (by
    intro n j hj
    show b_X1_mostAlike_k1_L6 E M (f_X1_mostAlike_k1_L6 E M n) v (nI set) y t (nI (mostN set (gW 0 t y) j)) (nI j) = f_X1_mostAlike_k1_L6 E M n v (nI set) y t (nI (if set.testBit j then max (mostN set (gW 0 t y) j) (cntB set (gW 0 t y) (gW 0 t y j) 6) else mostN set (gW 0 t y) j)) (nI (j + 1))
    unfold b_X1_mostAlike_k1_L6
    have l1 := mostN_le set (gW 0 t y) j
    have l2 := cntB_le set (gW 0 t y) (gW 0 t y j)
    simp only [if_neg (lt6 hj), bitN (show set < 2 ^ 31 by omega) (show j < 32 by omega), gW_k1 E M hj, alike_k1 hs, Option.bind_some, jmax_n (show mostN set (gW 0 t y) j < 2 ^ 31 by omega) (show cntB set (gW 0 t y) (gW 0 t y j) 6 < 2 ^ 31 by omega), nI_1]
    cases set.testBit j
    · rw [if_neg (by decide), if_neg (by decide)]
    · rw [if_pos rfl, if_pos rfl])
  refine e.trans ?_
  show b_X1_mostAlike_k1_L6 E M (f_X1_mostAlike_k1_L6 E M n) v (nI set) y t _ (nI 6) = _
  unfold b_X1_mostAlike_k1_L6
  rw [if_pos (by decide)]
/-! the next look -/
def valS (set q : Nat) : Nat := mostN set (gW 1 (nI (q / 12)) (nI (q % 12 + 1))) 6
def codS (q : Nat) : Int32 := 100 * nI (q / 12) + nI (q % 12 + 1)
theorem valS_le (set q : Nat) : valS set q ≤ 6 := mostN_le _ _ _
theorem valS_at (set : Nat) {a i : Nat} (hi : i < 12) : mostN set (gW 1 (nI a) (nI (i + 1))) 6 = valS set (12 * a + i) := by
  unfold valS
  rw [show (12 * a + i) / 12 = a by omega, show (12 * a + i) % 12 = i by omega]
theorem codS_at {a i : Nat} (hi : i < 12) : (100 : Int32) * nI a + nI (i + 1) = codS (12 * a + i) := by
  unfold codS
  rw [show (12 * a + i) / 12 = a by omega, show (12 * a + i) % 12 = i by omega]
theorem bestS {set v : Nat} (hs : set < 64) : f_X6_bestQuestion E M v (nI set) = some (bqS 7 codS (valS set) 24).1 := by
  unfold f_X6_bestQuestion
  obtain ⟨n, e⟩ := loop_FU (fun q (s : Int32 × Nat) w => f_X6_bestQuestion_L8 E M q v (nI set) s.1 (nI s.2) w) (fun a => bqS 7 codS (valS set) (12 * a)) 2 (by decide) (by
    intro n a ha
    show b_X6_bestQuestion_L8 E M (f_X6_bestQuestion_L8 E M n) v (nI set) _ _ (nI a) = _
    unfold b_X6_bestQuestion_L8
    rw [if_neg (show ¬ (1 : Int32) < nI (a) from nI_nlt (a := 1) (b := a) (by omega) (by decide))]
    obtain ⟨n', e'⟩ := loop_FU (fun q (s : Int32 × Nat) w => f_X6_bestQuestion_L17 E M (f_X6_bestQuestion_L8 E M n) q v (nI set) s.1 (nI s.2) (nI a) (w + 1)) (fun i => bqS 7 codS (valS set) (12 * a + i)) 12 (by decide) (by
      intro n' i hi
      show b_X6_bestQuestion_L17 E M (f_X6_bestQuestion_L8 E M n) (f_X6_bestQuestion_L17 E M (f_X6_bestQuestion_L8 E M n) n') v (nI set) _ _ (nI a) (nI i + 1) = f_X6_bestQuestion_L17 E M (f_X6_bestQuestion_L8 E M n) n' v (nI set) (bqS 7 codS (valS set) (12 * a + i + 1)).1 (nI (bqS 7 codS (valS set) (12 * a + i + 1)).2) (nI a) (nI (i + 1) + 1)
      unfold b_X6_bestQuestion_L17
      rw [nI_1 i, if_neg (show ¬ (12 : Int32) < nI (i + 1) from nI_nlt (a := 12) (b := i + 1) (by omega) (by decide)), most_k5 hs, Option.bind_some, valS_at set hi, codS_at hi]
      have l1 := bq_le (c0 := 7) (code := codS) (by decide) (valS_le set) (12 * a + i)
      have l2 := valS_le set (12 * a + i)
      show _ = f_X6_bestQuestion_L17 E M (f_X6_bestQuestion_L8 E M n) n' v (nI set) (if (bqS 7 codS (valS set) (12 * a + i)).2 ≤ valS set (12 * a + i) then bqS 7 codS (valS set) (12 * a + i) else (codS (12 * a + i), valS set (12 * a + i))).1 (nI (if (bqS 7 codS (valS set) (12 * a + i)).2 ≤ valS set (12 * a + i) then bqS 7 codS (valS set) (12 * a + i) else (codS (12 * a + i), valS set (12 * a + i))).2) (nI a) (nI (i + 1) + 1)
      by_cases ee : (bqS 7 codS (valS set) (12 * a + i)).2 ≤ valS set (12 * a + i)
      · rw [if_pos ee, if_pos (nI_le ee (by omega))]
      · rw [if_neg ee, if_neg (nI_ge (a := valS set (12 * a + i)) (b := (bqS 7 codS (valS set) (12 * a + i)).2) (by omega) (by omega))])
    refine e'.trans ?_
    show b_X6_bestQuestion_L17 E M (f_X6_bestQuestion_L8 E M n) (f_X6_bestQuestion_L17 E M (f_X6_bestQuestion_L8 E M n) n') v (nI set) (bqS 7 codS (valS set) (12 * (a + 1))).1 (nI (bqS 7 codS (valS set) (12 * (a + 1))).2) (nI a) (nI 12 + 1) = _
    unfold b_X6_bestQuestion_L17
    rw [if_pos (by decide), nI_1])
  refine e.trans ?_
  show b_X6_bestQuestion_L8 E M (f_X6_bestQuestion_L8 E M n) v (nI set) _ _ (nI 2) = _
  unfold b_X6_bestQuestion_L8
  rw [if_pos (by decide)]
theorem lookS {set : Nat} (h0 : 0 < set) (hs : set < 64) : f_X9_look_L28 E FU M (nI set) (-1) 1048576 0 = some ((bqS 1048576 codS (valS set) 24).1, M) := by
  obtain ⟨n, e⟩ := loop_FU (fun q (s : Int32 × Nat) w => f_X9_look_L28 E q M (nI set) s.1 (nI s.2) w) (fun a => bqS 1048576 codS (valS set) (12 * a)) 2 (by decide) (by
    intro n a ha
    show b_X9_look_L28 E (f_X9_look_L28 E n) M (nI set) _ _ (nI a) = _
    unfold b_X9_look_L28
    rw [if_neg (show ¬ (2 : Int32) ≤ nI (a) from nI_ge (a := a) (b := 2) (by omega) (by decide)), if_neg (nI_ne0 h0 (by omega))]
    obtain ⟨n', e'⟩ := loop_FU (fun q (s : Int32 × Nat) w => f_X9_look_L41 E (f_X9_look_L28 E n) q M (nI set) s.1 (nI s.2) (nI a) (w + 1)) (fun i => bqS 1048576 codS (valS set) (12 * a + i)) 12 (by decide) (by
      intro n' i hi
      show b_X9_look_L41 E (f_X9_look_L28 E n) (f_X9_look_L41 E (f_X9_look_L28 E n) n') M (nI set) _ _ (nI a) (nI i + 1) = f_X9_look_L41 E (f_X9_look_L28 E n) n' M (nI set) (bqS 1048576 codS (valS set) (12 * a + i + 1)).1 (nI (bqS 1048576 codS (valS set) (12 * a + i + 1)).2) (nI a) (nI (i + 1) + 1)
      unfold b_X9_look_L41
      obtain ⟨r1, r2⟩ := bq_ref E M (c0 := 1048576) (code := codS) (by decide) (by decide) (valS_le set) (12 * a + i)
      rw [nI_1 i, if_neg (show ¬ (12 : Int32) < nI (i + 1) from nI_nlt (a := 12) (b := i + 1) (by omega) (by decide)), alike9 hs, Option.bind_some, valS_at set hi, codS_at hi, nm_v, r1, r2])
    refine e'.trans ?_
    show b_X9_look_L41 E (f_X9_look_L28 E n) (f_X9_look_L41 E (f_X9_look_L28 E n) n') M (nI set) (bqS 1048576 codS (valS set) (12 * (a + 1))).1 (nI (bqS 1048576 codS (valS set) (12 * (a + 1))).2) (nI a) (nI 12 + 1) = _
    unfold b_X9_look_L41
    rw [if_pos (by decide), nI_1])
  refine e.trans ?_
  show b_X9_look_L28 E (f_X9_look_L28 E n) M (nI set) _ _ (nI 2) = _
  unfold b_X9_look_L28
  rw [if_pos (by decide)]
/-! the next person's question -/
def valP (set q : Nat) : Nat := mostN set (gW 0 (nI (q / 10)) (nI (q % 10) - 1)) 6
theorem valP_le (set q : Nat) : valP set q ≤ 6 := mostN_le _ _ _
theorem valP_at (set : Nat) {a i : Nat} (hi : i < 10) : mostN set (gW 0 (nI a) (nI i - 1)) 6 = valP set (10 * a + i) := by
  unfold valP
  rw [show (10 * a + i) / 10 = a by omega, show (10 * a + i) % 10 = i by omega]
theorem codP_at (a i : Nat) : (10 : Int32) * nI a + (nI i - 1) + 1 = nI (10 * a + i) := by
  rw [Int32.add_assoc, pl_up, show (10 : Int32) = nI 10 from rfl, pk_mul, nI_add]
theorem lt10 : ∀ i, i < 10 → ¬ (8 : Int32) < nI i - 1 := by decide
theorem bestP {set v : Nat} (hs : set < 64) : f_X2_bestQuestion E M v (nI set) = some (bqS 7 nI (valP set) 240).1 := by
  unfold f_X2_bestQuestion
  obtain ⟨n, e⟩ := loop_FU (fun q (s : Int32 × Nat) w => f_X2_bestQuestion_L8 E M q v (nI set) s.1 (nI s.2) w) (fun a => bqS 7 nI (valP set) (10 * a)) 24 (by decide) (by
    intro n a ha
    show b_X2_bestQuestion_L8 E M (f_X2_bestQuestion_L8 E M n) v (nI set) _ _ (nI a) = _
    unfold b_X2_bestQuestion_L8
    rw [if_neg (show ¬ (24 : Int32) ≤ nI (a) from nI_ge (a := a) (b := 24) (by omega) (by decide))]
    obtain ⟨n', e'⟩ := loop_FU (fun q (s : Int32 × Nat) w => f_X2_bestQuestion_L18 E M (f_X2_bestQuestion_L8 E M n) q v (nI set) s.1 (nI s.2) (nI a) (w - 1)) (fun i => bqS 7 nI (valP set) (10 * a + i)) 10 (by decide) (by
      intro n' i hi
      show b_X2_bestQuestion_L18 E M (f_X2_bestQuestion_L8 E M n) (f_X2_bestQuestion_L18 E M (f_X2_bestQuestion_L8 E M n) n') v (nI set) _ _ (nI a) (nI i - 1) = f_X2_bestQuestion_L18 E M (f_X2_bestQuestion_L8 E M n) n' v (nI set) (bqS 7 nI (valP set) (10 * a + i + 1)).1 (nI (bqS 7 nI (valP set) (10 * a + i + 1)).2) (nI a) (nI (i + 1) - 1)
      unfold b_X2_bestQuestion_L18
      rw [if_neg (lt10 i hi), most_k1 hs, Option.bind_some, valP_at set hi, codP_at, nm_v, pl_up']
      have l1 := bq_le (c0 := 7) (code := nI) (by decide) (valP_le set) (10 * a + i)
      have l2 := valP_le set (10 * a + i)
      show _ = f_X2_bestQuestion_L18 E M (f_X2_bestQuestion_L8 E M n) n' v (nI set) (if (bqS 7 nI (valP set) (10 * a + i)).2 ≤ valP set (10 * a + i) then bqS 7 nI (valP set) (10 * a + i) else (nI (10 * a + i), valP set (10 * a + i))).1 (nI (if (bqS 7 nI (valP set) (10 * a + i)).2 ≤ valP set (10 * a + i) then bqS 7 nI (valP set) (10 * a + i) else (nI (10 * a + i), valP set (10 * a + i))).2) (nI a) (nI (i + 1) - 1)
      by_cases ee : (bqS 7 nI (valP set) (10 * a + i)).2 ≤ valP set (10 * a + i)
      · rw [if_pos ee, if_pos (nI_le ee (by omega))]
      · rw [if_neg ee, if_neg (nI_ge (a := valP set (10 * a + i)) (b := (bqS 7 nI (valP set) (10 * a + i)).2) (by omega) (by omega))])
    refine e'.trans ?_
    show b_X2_bestQuestion_L18 E M (f_X2_bestQuestion_L8 E M n) (f_X2_bestQuestion_L18 E M (f_X2_bestQuestion_L8 E M n) n') v (nI set) (bqS 7 nI (valP set) (10 * (a + 1))).1 (nI (bqS 7 nI (valP set) (10 * (a + 1))).2) (nI a) (nI 10 - 1) = _
    unfold b_X2_bestQuestion_L18
    rw [if_pos (by decide), nI_1])
  refine e.trans ?_
  show b_X2_bestQuestion_L8 E M (f_X2_bestQuestion_L8 E M n) v (nI set) _ _ (nI 24) = _
  unfold b_X2_bestQuestion_L8
  rw [if_pos (by decide)]
theorem askP {set : Nat} (h0 : 0 < set) (hs : set < 64) : f_X9_ask_L29 E FU M (nI set) (-1) 1048576 0 = some ((bqS 1048576 nI (valP set) 240).1, M) := by
  obtain ⟨n, e⟩ := loop_FU (fun q (s : Int32 × Nat) w => f_X9_ask_L29 E q M (nI set) s.1 (nI s.2) w) (fun a => bqS 1048576 nI (valP set) a) 240 (by decide) (by
    intro n q hq
    show b_X9_ask_L29 E (f_X9_ask_L29 E n) M (nI set) _ _ (nI q) = _
    unfold b_X9_ask_L29
    obtain ⟨r1, r2⟩ := bq_ref E M (c0 := 1048576) (code := nI) (by decide) (by decide) (valP_le set) q
    have d1 : nI q / (10 : Int32) = nI (q / 10) := pk_div (d := 10) (by omega) (by decide) (by decide)
    have d2 : nI q - nI q / (10 : Int32) * (10 : Int32) = nI (q % 10) := pk_rem (d := 10) (by omega) (by decide) (by decide)
    rw [if_neg (show ¬ (240 : Int32) ≤ nI (q) from nI_ge (a := q) (b := 240) (by omega) (by decide)), if_neg (nI_ne0 h0 (by omega)), d2, d1, alike9 hs, Option.bind_some]
    show f_X9_ask_L29 E n M (nI set) (if nI (bqS 1048576 nI (valP set) q).2 ≤ nI (valP set q) then _ else _) (f_X9_lesser E M (nI (bqS 1048576 nI (valP set) q).2) (nI (valP set q))) _ = _
    rw [r1, r2, nI_1])
  refine e.trans ?_
  show b_X9_ask_L29 E (f_X9_ask_L29 E n) M (nI set) _ _ (nI 240) = _
  unfold b_X9_ask_L29
  rw [if_pos (by decide)]
end Al48
section Al48b
variable {E : Env1} {x m : Nat} {M : Mem}
theorem ok_is (hI : Inv E x m M) : al_is Inv E x m M := by
  intro a1
  obtain ⟨ad, h, pi, hN, ho, hc, hb, k1, k2, k3, k4, k5⟩ := id hI
  obtain ⟨rfl, rfl⟩ : m = ad 0 ∧ x = ad 50 := ⟨hN.1.symm, hN.2.1.symm⟩
  have r := RO_of ho.1.1 hb
  have hH := hn_of hN (H := 100) (Or.inl rfl)
  have hS := sn_of hN (H := 100) (Or.inl rfl)
  have hT : sT (oS h) < 2 ^ 31 := by have := ho.2.1; omega
  have hp : oP h ≤ 6 := ho.1.1
  have hI' := hN.2.2.1
  have hP : ∀ j, j < 8 → SN E ad (100 + 16 + 4 * j) := fun j hj => (sp_of hN (H := 100) (Or.inl rfl) hj).1
  have lv := LV_of ho hb
  have wn := (wn_of hN (H := 100) (Or.inl rfl)).2.1
  by_cases gs : (0 : Int32) ≤ a1 ∧ a1 ≤ 7
  · refine ⟨nI (setOf 6 (fun k => rowsB (oY h) a1 (fun x t => f_X9_wantsBy E M (nI k) x t) (oB h))), M, M, ?_, ?_, hI⟩
    · unfold f_X8_is
      rw [st8_t gs, if_neg I10, n_100 hN, hH.2.2.2.2.2.1, fitting_k5 wn ho.2.2.2.2.2.1 hc.2.2.2.1]
      rfl
    · unfold f_X9_is
      rw [st9_t gs, if_neg I10, stepKinds_eq hN ho.2.2.2.2.2.1 lv.2.2.2.2.1 lv.2.2.2.2.2.2.2.1]
      rfl
  · exact fin_bad hN ho hc hb k1 k2 k3 k4 k5 (by unfold f_X8_is; rw [st8_f gs, if_pos I00]; rfl) (fun M1 u => by unfold f_X9_is; rw [st9_f gs, if_pos I00]; rfl)
theorem ok_look (hI : Inv E x m M) : al_look Inv E x m M := by
  intro a1
  obtain ⟨ad, h, pi, hN, ho, hc, hb, k1, k2, k3, k4, k5⟩ := id hI
  obtain ⟨rfl, rfl⟩ : m = ad 0 ∧ x = ad 50 := ⟨hN.1.symm, hN.2.1.symm⟩
  have r := RO_of ho.1.1 hb
  have hH := hn_of hN (H := 100) (Or.inl rfl)
  have hS := sn_of hN (H := 100) (Or.inl rfl)
  have hT : sT (oS h) < 2 ^ 31 := by have := ho.2.1; omega
  have hp : oP h ≤ 6 := ho.1.1
  have hI' := hN.2.2.1
  have hP : ∀ j, j < 8 → SN E ad (100 + 16 + 4 * j) := fun j hj => (sp_of hN (H := 100) (Or.inl rfl) hj).1
  have lv := LV_of ho hb
  have wn := (wn_of hN (H := 100) (Or.inl rfl)).2.1
  by_cases gs : (0 : Int32) ≤ a1 ∧ a1 ≤ 7
  · have hset : setOf 6 (fun k => rowsB (oY h) a1 (fun x t => f_X9_wantsBy E M (nI k) x t) (oB h)) < 64 := set_lt 6 _
    have e8 : f_X8_look E M (ad 50) a1 = (if nI (setOf 6 (fun k => rowsB (oY h) a1 (fun x t => f_X9_wantsBy E M (nI k) x t) (oB h))) = 0 then some ((-1 : Int32), M) else some ((bqS 7 codS (valS (setOf 6 (fun k => rowsB (oY h) a1 (fun x t => f_X9_wantsBy E M (nI k) x t) (oB h)))) 24).1, M)) := by
      unfold f_X8_look f_X1_nextQuestion_k5
      rw [st8_t gs, if_neg I10, n_100 hN, hH.2.2.2.2.2.1, fitting_k5 wn ho.2.2.2.2.2.1 hc.2.2.2.1, Option.bind_some, bestS hset]
      split <;> rfl
    have e9 : f_X9_look E M (ad 0) a1 = f_X9_look_L28 E FU M (nI (setOf 6 (fun k => rowsB (oY h) a1 (fun x t => f_X9_wantsBy E M (nI k) x t) (oB h)))) (-1 : Int32) (1048576 : Int32) (0 : Int32) := by
      unfold f_X9_look
      rw [st9_t gs, if_neg I10, stepKinds_eq hN ho.2.2.2.2.2.1 lv.2.2.2.2.1 lv.2.2.2.2.2.2.2.1]
      rfl
    rw [e8]
    generalize setOf 6 (fun k => rowsB (oY h) a1 (fun x t => f_X9_wantsBy E M (nI k) x t) (oB h)) = set at hset e9 ⊢
    rcases (show set = 0 ∨ 0 < set by omega) with rfl | h0
    · refine ⟨-1, M, M, by rw [if_pos (by decide)], ?_, hI⟩
      rw [e9]
      show b_X9_look_L28 E (f_X9_look_L28 E 999) M (nI 0) _ _ 0 = _
      unfold b_X9_look_L28
      rw [if_neg (by decide), if_pos (by decide)]
    · refine ⟨_, M, M, by rw [if_neg (nI_ne0 h0 (by omega))], ?_, hI⟩
      rw [e9, lookS h0 hset, bq_eq (c0 := 1048576) (c1 := 7) (by decide) (by decide) (valS_le set) 23]
  · exact fin_bad hN ho hc hb k1 k2 k3 k4 k5 (by unfold f_X8_look; rw [st8_f gs, if_pos I00]; rfl) (fun M1 u => by unfold f_X9_look; rw [st9_f gs, if_pos I00]; rfl)
theorem ok_kinds (hI : Inv E x m M) : al_kinds Inv E x m M := by
  intro a1
  obtain ⟨ad, h, pi, hN, ho, hc, hb, k1, k2, k3, k4, k5⟩ := id hI
  obtain ⟨rfl, rfl⟩ : m = ad 0 ∧ x = ad 50 := ⟨hN.1.symm, hN.2.1.symm⟩
  have r := RO_of ho.1.1 hb
  have hH := hn_of hN (H := 100) (Or.inl rfl)
  have hS := sn_of hN (H := 100) (Or.inl rfl)
  have hT : sT (oS h) < 2 ^ 31 := by have := ho.2.1; omega
  have hp : oP h ≤ 6 := ho.1.1
  have hI' := hN.2.2.1
  have hP : ∀ j, j < 8 → SN E ad (100 + 16 + 4 * j) := fun j hj => (sp_of hN (H := 100) (Or.inl rfl) hj).1
  have lv := LV_of ho hb
  have wn := (wn_of hN (H := 100) (Or.inl rfl)).2.2
  by_cases g : inP (oP h) a1
  · refine ⟨nI (setOf 6 (fun k => rowsB (oZ h) a1 (fun x t => f_X9_worthBy E M (nI k) t x) (oC h))), M, M, ?_, ?_, hI⟩
    · unfold f_X8_kinds
      rw [n_100 hN, hasP_t hp hc.1.1 g, if_neg I10, hH.2.2.2.2.2.2.1, hH.2.2.2.2.2.2.2.2, fitting_k1 wn ho.2.2.2.2.2.2.1 hc.2.2.2.2.1]
      rfl
    · unfold f_X9_kinds
      rw [one_t r.1 g, if_neg I10, peopleKinds_eq hN ho.2.2.2.2.2.2.1 lv.2.2.2.2.2.1 lv.2.2.2.2.2.2.2.2]
      rfl
  · exact fin_bad hN ho hc hb k1 k2 k3 k4 k5 (by unfold f_X8_kinds; rw [n_100 hN, hasP_f hc.1.1 g, if_pos I00]; rfl) (fun M1 u => by unfold f_X9_kinds; rw [one_f ((u 0 (by decide) 1).trans r.1) g, if_pos I00]; rfl)
theorem ok_ask (hI : Inv E x m M) : al_ask Inv E x m M := by
  intro a1
  obtain ⟨ad, h, pi, hN, ho, hc, hb, k1, k2, k3, k4, k5⟩ := id hI
  obtain ⟨rfl, rfl⟩ : m = ad 0 ∧ x = ad 50 := ⟨hN.1.symm, hN.2.1.symm⟩
  have r := RO_of ho.1.1 hb
  have hH := hn_of hN (H := 100) (Or.inl rfl)
  have hS := sn_of hN (H := 100) (Or.inl rfl)
  have hT : sT (oS h) < 2 ^ 31 := by have := ho.2.1; omega
  have hp : oP h ≤ 6 := ho.1.1
  have hI' := hN.2.2.1
  have hP : ∀ j, j < 8 → SN E ad (100 + 16 + 4 * j) := fun j hj => (sp_of hN (H := 100) (Or.inl rfl) hj).1
  have lv := LV_of ho hb
  have wn := (wn_of hN (H := 100) (Or.inl rfl)).2.2
  by_cases g : inP (oP h) a1
  · have hset : setOf 6 (fun k => rowsB (oZ h) a1 (fun x t => f_X9_worthBy E M (nI k) t x) (oC h)) < 64 := set_lt 6 _
    have e8 : f_X8_ask E M (ad 50) a1 = (if nI (setOf 6 (fun k => rowsB (oZ h) a1 (fun x t => f_X9_worthBy E M (nI k) t x) (oC h))) = 0 then some ((-1 : Int32), M) else some ((bqS 7 nI (valP (setOf 6 (fun k => rowsB (oZ h) a1 (fun x t => f_X9_worthBy E M (nI k) t x) (oC h)))) 240).1, M)) := by
      unfold f_X8_ask f_X1_nextQuestion_k1
      rw [n_100 hN, hasP_t hp hc.1.1 g, if_neg I10, hH.2.2.2.2.2.2.1, hH.2.2.2.2.2.2.2.2, fitting_k1 wn ho.2.2.2.2.2.2.1 hc.2.2.2.2.1, Option.bind_some, bestP hset]
      split <;> rfl
    have e9 : f_X9_ask E M (ad 0) a1 = f_X9_ask_L29 E FU M (nI (setOf 6 (fun k => rowsB (oZ h) a1 (fun x t => f_X9_worthBy E M (nI k) t x) (oC h)))) (-1 : Int32) (1048576 : Int32) (0 : Int32) := by
      unfold f_X9_ask
      rw [one_t r.1 g, if_neg I10, peopleKinds_eq hN ho.2.2.2.2.2.2.1 lv.2.2.2.2.2.1 lv.2.2.2.2.2.2.2.2]
      rfl
    rw [e8]
    generalize setOf 6 (fun k => rowsB (oZ h) a1 (fun x t => f_X9_worthBy E M (nI k) t x) (oC h)) = set at hset e9 ⊢
    rcases (show set = 0 ∨ 0 < set by omega) with rfl | h0
    · refine ⟨-1, M, M, by rw [if_pos (by decide)], ?_, hI⟩
      rw [e9]
      show b_X9_ask_L29 E (f_X9_ask_L29 E 999) M (nI 0) _ _ 0 = _
      unfold b_X9_ask_L29
      rw [if_neg (by decide), if_pos (by decide)]
    · refine ⟨_, M, M, by rw [if_neg (nI_ne0 h0 (by omega))], ?_, hI⟩
      rw [e9, askP h0 hset, bq_eq (c0 := 1048576) (c1 := 7) (by decide) (by decide) (valP_le set) 239]
  · exact fin_bad hN ho hc hb k1 k2 k3 k4 k5 (by unfold f_X8_ask; rw [n_100 hN, hasP_f hc.1.1 g, if_pos I00]; rfl) (fun M1 u => by unfold f_X9_ask; rw [one_f ((u 0 (by decide) 1).trans r.1) g, if_pos I00]; rfl)
end Al48b
