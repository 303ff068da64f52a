/-! the class's stand, its other methods -/
section Stand33
/-- nothing else changed -/
def Off (ad : Nat → Nat) (M M1 : Mem) (lo hi : Nat) : Prop := (∀ n, (n < lo ∨ hi ≤ n) → ∀ k, mi M1 (ad n) k = mi M (ad n) k) ∧ M1.2 = M.2
theorem Off.tr {ad : Nat → Nat} {M M1 M2 : Mem} {lo hi : Nat} (h : Off ad M M1 lo hi) (g : Off ad M1 M2 lo hi) : Off ad M M2 lo hi := ⟨fun n hn k => (g.1 n hn k).trans (h.1 n hn k), g.2.trans h.2⟩
theorem Off.mono {ad : Nat → Nat} {M M1 : Mem} {lo hi lo' hi' : Nat} (h : Off ad M M1 lo hi) (h1 : lo' ≤ lo) (h2 : hi ≤ hi') : Off ad M M1 lo' hi' := ⟨fun n hn k => h.1 n (by omega) k, h.2⟩
theorem Off.rf {ad : Nat → Nat} {M : Mem} {lo hi : Nat} : Off ad M M lo hi := ⟨fun _ _ _ => rfl, rfl⟩
theorem Off.ml {ad : Nat → Nat} {M M1 : Mem} {lo hi : Nat} (h : Off ad M M1 lo hi) (q k : Nat) : ml M1 q k = ml M q k := congrArg (fun z => z.1 q k) h.2
theorem Off.mr {ad : Nat → Nat} {M M1 : Mem} {lo hi : Nat} (h : Off ad M M1 lo hi) (q k : Nat) : mr M1 q k = mr M q k := congrArg (fun z => z.2 q k) h.2
theorem Off_wi {ad : Nat → Nat} (hI : ∀ n n', ad n = ad n' → n = n') (M : Mem) {lo hi a k : Nat} {v : Int32} (h : lo ≤ a ∧ a < hi) : Off ad M (wi M (ad a) k v) lo hi := ⟨fun n hn j => by rw [mi_wi, if_neg (fun z => by have := hI _ _ z.1; omega)], rfl⟩
theorem Off_upR {ad : Nat → Nat} (hI : ∀ n n', ad n = ad n' → n = n') (M : Mem) {lo hi a l k : Nat} {v : Nat → Int32} (h : lo ≤ a ∧ a < hi) : Off ad M (upR M (ad a) l k v) lo hi := ⟨fun n hn j => by rw [mi_upR, if_neg (fun z => by have := hI _ _ z.1; omega)], rfl⟩
variable {E : Env1} {ad : Nat → Nat} {M M1 : Mem} {S p : Nat} {s : Sd}
theorem CS_same (h : ∀ n, S ≤ n → n < S + 4 → ∀ k, mi M1 (ad n) k = mi M (ad n) k) (hs : CS ad M S s) : CS ad M1 S s := by
  obtain ⟨h1, h2, h3, h4, h5⟩ := hs
  exact ⟨fun k hk => (h (S + 1) (by omega) (by omega) k).trans (h1 k hk), fun k hk => (h (S + 2) (by omega) (by omega) k).trans (h2 k hk), fun k hk => (h (S + 3) (by omega) (by omega) k).trans (h3 k hk), (h S (by omega) (by omega) 3).trans h4, (h S (by omega) (by omega) 4).trans h5⟩
theorem CS_off {lo hi : Nat} (h : Off ad M M1 lo hi) (hd : S + 4 ≤ lo ∨ hi ≤ S) (hs : CS ad M S s) : CS ad M1 S s := CS_same (fun n h1 h2 k => h.1 n (by omega) k) hs
theorem passMinute_sp (hI : ∀ n n', ad n = ad n' → n = n') (hS : SN E ad S) (ho : okS p s) (h : CS ad M S s) : ∃ M1, f_X5_passMinute E M (ad S) = some M1 ∧ CS ad M1 S (passS s) ∧ Off ad M M1 S (S + 4) := by
  refine ⟨_, passMinute_eq hI hS ho.2.1 ho.2.2.1 ho.2.2.2.1 h, ?_, (Off_upR hI M (by omega)).tr (Off_wi hI _ (by omega))⟩
  obtain ⟨h1, h2, h3, h4, h5⟩ := h
  have ne : ∀ a b, a ≠ b → ad a ≠ ad b := fun a b h e => h (hI a b e)
  refine ⟨fun k hk => ?_, fun k hk => ?_, fun k hk => ?_, ?_, ?_⟩
  · rw [mi_wi, if_neg (fun z => ne _ _ (by omega) z.1), mi_upR, if_neg (fun z => ne _ _ (by omega) z.1)]; exact h1 k hk
  · rw [mi_wi, if_neg (fun z => ne _ _ (by omega) z.1), mi_upR, if_pos ⟨rfl, by omega, by omega⟩]; rfl
  · rw [mi_wi, if_neg (fun z => ne _ _ (by omega) z.1), mi_upR, if_neg (fun z => ne _ _ (by omega) z.1)]; exact h3 k hk
  · rw [mi_wi, if_neg (by omega), mi_upR, if_neg (fun z => ne _ _ (by omega) z.1)]; exact h4
  · rw [mi_wi, if_pos ⟨rfl, rfl⟩]; rfl
/-- n minutes, none behind the last -/
def passN : Nat → Sd → Sd
  | 0, s => s
  | n + 1, s => if 9999 ≤ sT s then s else passN n (passS s)
theorem okS_passN : ∀ n (s : Sd), okS p s → sT s ≤ 9999 → okS p (passN n s) ∧ sT (passN n s) ≤ 9999 := by
  intro n
  induction n with
  | zero => intro s h ht; exact ⟨h, ht⟩
  | succ n ih =>
    intro s h ht
    unfold passN
    split
    · exact ⟨h, ht⟩
    · exact ih _ (okS_pass h (by omega)) (by show sT s + 1 ≤ 9999; omega)
theorem passMinutes_L (hI : ∀ n n', ad n = ad n' → n = n') (hS : SN E ad S) (N : Nat) (hN : N < 2 ^ 31) : ∀ (f j : Nat) (M : Mem) (s : Sd), j ≤ N → N - j < f → okS p s → sT s ≤ 9999 → CS ad M S s → ∃ M1, f_X5_passMinutes_L2 E f M (ad S) (nI N) (nI j) = some M1 ∧ CS ad M1 S (passN (N - j) s) ∧ Off ad M M1 S (S + 4) := by
  intro f
  induction f with
  | zero => intro j M s _ h; omega
  | succ f ih =>
    intro j M s hj hf ho ht h
    show ∃ M1, b_X5_passMinutes_L2 E (f_X5_passMinutes_L2 E f) M (ad S) (nI N) (nI j) = some M1 ∧ _
    unfold b_X5_passMinutes_L2
    by_cases e : j = N
    · subst e
      rw [if_pos (nI_le (Nat.le_refl _) (by omega)), Nat.sub_self]
      exact ⟨M, rfl, h, Off.rf⟩
    · rw [if_neg (nI_ge (a := j) (b := N) (by omega) (by omega)), h.2.2.2.2]
      obtain ⟨d, hd⟩ : ∃ d, N - j = d + 1 := ⟨N - j - 1, by omega⟩
      rw [hd]
      unfold passN
      by_cases h9 : 9999 ≤ sT s
      · rw [if_pos (show (9999 : Int32) ≤ nI (sT s) from nI_le (a := 9999) h9 (by omega)), if_pos h9]
        exact ⟨M, rfl, h, Off.rf⟩
      · rw [if_neg (show ¬ (9999 : Int32) ≤ nI (sT s) from nI_ge (a := sT s) (b := 9999) (by omega) (by decide)), if_neg h9]
        obtain ⟨M1, e1, h1, o1⟩ := passMinute_sp hI hS ho h
        rw [e1, Option.bind_some, nI_1]
        obtain ⟨M2, e2, h2, o2⟩ := ih (j + 1) M1 (passS s) (by omega) (by omega) (okS_pass ho (by omega)) (by show sT s + 1 ≤ 9999; omega) h1
        rw [show N - (j + 1) = d by omega] at h2
        exact ⟨M2, e2, h2, o1.tr o2⟩
theorem passMinutes_sp (hI : ∀ n n', ad n = ad n' → n = n') (hS : SN E ad S) {N : Nat} (hN : N ≤ 99) (ho : okS p s) (ht : sT s ≤ 9999) (h : CS ad M S s) : ∃ M1, f_X5_passMinutes E M (ad S) (nI N) = some M1 ∧ CS ad M1 S (passN N s) ∧ Off ad M M1 S (S + 4) := by
  unfold f_X5_passMinutes
  exact passMinutes_L hI hS N (by omega) FU 0 M s (by omega) (by unfold FU; omega) ho ht h
theorem bitCount_eq (E : Env1) (M : Mem) {v : Nat} (h : v < 256) : f_J6_bitCount_0f7a4 E M (nI v) = nI (popc v) := by
  unfold f_J6_bitCount_0f7a4
  dsimp only [nm]
  revert v
  decide +kernel
def knownAllN (n : Nat) (s : Sd) : Nat := sumO n (fun i => popc (sN s i))
theorem popc_le (v : Nat) : popc v ≤ 8 := by
  have := sum_le (f := fun k => if v.testBit k then 1 else 0) (b := 1) 8 (fun i _ => by split <;> omega)
  exact this
theorem popc_0 : popc 0 = 0 := by decide
theorem knownTogether_eq (hS : SN E ad S) (ho : okS p s) (h : CS ad M S s) : f_X5_knownTogether E M (ad S) = some (nI (knownAllN 6 s)) := by
  unfold f_X5_knownTogether
  obtain ⟨n, e⟩ := loop_FU (fun n (a : Int32) w => f_X5_knownTogether_L4 E M n (ad S) a w) (fun j => nI (knownAllN j s)) 6 (by decide) (by
    intro n j hj
    show b_X5_knownTogether_L4 E M (f_X5_knownTogether_L4 E M n) (ad S) _ (nI j) = _
    unfold b_X5_knownTogether_L4
    rw [if_neg (lt6 hj), gd_nI hj (by decide), ix_nI (by omega), hS.2.1, h.2.1 j hj, bitCount_eq E M (ho.2.2.2.1 j)]
    dsimp only [nm]
    rw [nI_add, nI_1]
    rfl)
  refine e.trans ?_
  show b_X5_knownTogether_L4 E M (f_X5_knownTogether_L4 E M n) (ad S) _ (nI 6) = _
  unfold b_X5_knownTogether_L4
  rw [if_pos (by decide)]
def atTopN (n : Nat) (s : Sd) : Nat := sumO n (fun i => if sP s i = 9 then 1 else 0)
theorem pl8 {v : Nat} (h : v ≤ 9) : (nI v - 1 = (8 : Int32)) = (v = 9) := by
  revert v
  decide +kernel
theorem atTop_eq (hS : SN E ad S) (ho : okS p s) (h : CS ad M S s) : f_X5_atTop E M (ad S) = some (nI (atTopN 6 s)) := by
  unfold f_X5_atTop
  obtain ⟨n, e⟩ := loop_FU (fun n (a : Int32) w => f_X5_atTop_L4 E M n (ad S) a w) (fun j => nI (atTopN j s)) 6 (by decide) (by
    intro n j hj
    show b_X5_atTop_L4 E M (f_X5_atTop_L4 E M n) (ad S) _ (nI j) = _
    unfold b_X5_atTop_L4
    rw [if_neg (lt6 hj), gd_nI hj (by decide), ix_nI (by omega), hS.2.2, h.2.2.1 j hj, nI_1, nI_1]
    simp only [pl8 (ho.2.2.2.2.1 j)]
    show _ = f_X5_atTop_L4 E M n (ad S) (nI (atTopN j s + if sP s j = 9 then 1 else 0)) _
    by_cases e9 : sP s j = 9
    · rw [if_pos e9, if_pos e9]
    · rw [if_neg e9, if_neg e9]; rfl)
  refine e.trans ?_
  show b_X5_atTop_L4 E M (f_X5_atTop_L4 E M n) (ad S) _ (nI 6) = _
  unfold b_X5_atTop_L4
  rw [if_pos (by decide)]
/-- whether the step above a place (+ 1) bears one -/
def bears (s : Sd) (i pl : Nat) : Bool := decide (8 ≤ pl) || (sN s i).testBit pl
theorem pl_ge : ∀ {v : Nat}, v ≤ 9 → ((7 : Int32) ≤ nI v - 1) = (8 ≤ v) := by decide +kernel
theorem pl_ge8 : ∀ {v : Nat}, v ≤ 9 → ((8 : Int32) ≤ nI v - 1) = (9 ≤ v) := by decide +kernel
theorem pl_up (v : Nat) : nI v - 1 + 1 = nI v := by
  rw [Int32.sub_add_cancel]
theorem pl_up' (v : Nat) : nI v - 1 + 1 = nI (v + 1) - 1 := by
  rw [Int32.sub_add_cancel, ← nI_1, Int32.add_sub_cancel]
theorem bearsAbove_eq (hS : SN E ad S) {i v : Nat} (hi : i < 6) (hv : v ≤ 9) (ho : okS p s) (h : CS ad M S s) : f_X5_bearsAbove E M (ad S) (nI i) (nI v - 1) = some (if bears s i v then 1 else 0) := by
  unfold f_X5_bearsAbove
  simp only [pl_ge hv]
  by_cases h8 : 8 ≤ v
  · rw [if_pos h8]
    unfold bears
    rw [decide_eq_true h8, Bool.true_or]
    rfl
  · rw [if_neg h8, pl_up, isKnown_eq hS hi (by omega) (ho.2.2.2.1 i) (h.2.1 i hi), Option.bind_some]
    unfold bears
    rw [decide_eq_false h8, Bool.false_or]
    cases (sN s i).testBit v <;> rfl
/-- how high one can go from a place (+ 1) -/
def highN (s : Sd) (i : Nat) : Nat → Nat → Nat
  | 0, v => v
  | n + 1, v => if 9 ≤ v then v else if bears s i v then highN s i n (v + 1) else v
theorem highest_L (hS : SN E ad S) {i : Nat} (hi : i < 6) (ho : okS p s) (h : CS ad M S s) : ∀ n v, v ≤ 9 → 9 - v < n → f_X5_highest_L7 E M n (ad S) (nI i) (nI v - 1) = some (nI (highN s i n v) - 1) := by
  intro n
  induction n with
  | zero => intro v _ h; omega
  | succ n ih =>
    intro v hv hn
    show b_X5_highest_L7 E M (f_X5_highest_L7 E M n) (ad S) (nI i) (nI v - 1) = _
    unfold b_X5_highest_L7 highN
    simp only [pl_ge8 hv]
    by_cases h9 : 9 ≤ v
    · rw [if_pos h9, if_pos h9, show v = 9 by omega]
      rfl
    · rw [if_neg h9, if_neg h9, bearsAbove_eq hS hi hv ho h, Option.bind_some]
      cases hb : bears s i v
      · simp
      · rw [pl_up', ih (v + 1) (by omega) (by omega)]
        simp
theorem high_st (s : Sd) (i : Nat) : ∀ n v, v ≤ 9 → 9 - v < n → highN s i n v = highN s i 10 v := by
  have key : ∀ n n' v, v ≤ 9 → 9 - v < n → 9 - v < n' → highN s i n v = highN s i n' v := by
    intro n
    induction n with
    | zero => intro n' v _ h; omega
    | succ n ih =>
      intro n' v hv hn hn'
      obtain ⟨n', rfl⟩ : ∃ k, n' = k + 1 := ⟨n' - 1, by omega⟩
      unfold highN
      split
      · rfl
      · split
        · exact ih n' (v + 1) (by omega) (by omega) (by omega)
        · rfl
  intro n v hv hn
  exact key n 10 v hv hn (by omega)
theorem highest_eq (hS : SN E ad S) {i : Nat} (hi : i < 6) (ho : okS p s) (h : CS ad M S s) : f_X5_highest E M (ad S) (nI i) = some (nI (highN s i 10 (sP s i)) - 1) := by
  unfold f_X5_highest
  rw [gd_nI hi (by decide), ix_nI (by omega), hS.2.2, h.2.2.1 i hi, highest_L hS hi ho h FU (sP s i) (ho.2.2.2.2.1 i) (by unfold FU; omega), high_st s i FU (sP s i) (ho.2.2.2.2.1 i) (by unfold FU; omega)]
/-- changes -/
def upN (f : Nat → Nat) (i v : Nat) : Nat → Nat := fun j => if j = i then v else f j
def putS (s : Sd) (k kind : Nat) : Sd := (sT s, sC s, upN (sS s) k kind, fun i => wo (sN s i) (2 ^ k), sP s)
theorem wo_0 (b : Nat) : wo 0 b = 0 := by unfold wo; simp
theorem okS_put (h : okS p s) {k kind : Nat} (hk : kind < 6) : okS p (putS s k kind) := by
  obtain ⟨h1, h2, h3, h4, h5, h6⟩ := h
  refine ⟨h1, h2, fun j hj => ?_, fun i => wo_lt (n := 8) (h4 i), h5, fun i hi => ⟨?_, (h6 i hi).2⟩⟩
  · show (if j = k then kind else sS s j) < 6
    split
    · exact hk
    · exact h3 j hj
  · show wo (sN s i) (2 ^ k) = 0
    rw [(h6 i hi).1, wo_0]
theorem putIn_sp (hI : ∀ n n', ad n = ad n' → n = n') (hS : SN E ad S) {k kind : Nat} (hk : k < 8) (h : CS ad M S s) : ∃ M1, f_X5_putIn E M (ad S) (nI k) (nI kind) = some M1 ∧ CS ad M1 S (putS s k kind) ∧ Off ad M M1 S (S + 4) := by
  obtain ⟨h1, h2, h3, h4, h5⟩ := h
  have ne : ∀ a b, a ≠ b → ad a ≠ ad b := fun a b h e => h (hI a b e)
  unfold f_X5_putIn
  rw [gd_nI hk (by decide), ix_nI (by omega), hS.1]
  obtain ⟨n, e⟩ := loop_FU (fun n (a : Mem) w => f_X5_putIn_L9 E n a (ad S) (nI k) w) (fun j => upR (wi M (ad (S + 1)) k (nI kind)) (ad (S + 2)) 0 j (fun i => nI (wo (sN s i) (2 ^ k)))) 6 (by decide) (by
    intro n j hj
    show b_X5_putIn_L9 E (f_X5_putIn_L9 E n) _ (ad S) (nI k) (nI j) = _
    unfold b_X5_putIn_L9
    dsimp only [nm]
    rw [if_neg (lt6 hj), gd_nI hj (by decide), ix_nI (by omega), hS.2.1, mi_upR, if_neg (by omega), mi_wi, if_neg (fun z => ne _ _ (by omega) z.1), h2 j hj, shl1 (by omega), nI_wo, nI_1, upR_s _ _ _ _ _ _ (by omega) _ rfl])
  rw [upR_0] at e
  refine ⟨upR (wi M (ad (S + 1)) k (nI kind)) (ad (S + 2)) 0 6 (fun i => nI (wo (sN s i) (2 ^ k))), e.trans ?_, ?_, (Off_wi hI M (by omega)).tr (Off_upR hI _ (by omega))⟩
  · show b_X5_putIn_L9 E (f_X5_putIn_L9 E n) _ (ad S) (nI k) (nI 6) = _
    unfold b_X5_putIn_L9
    rw [if_pos (by decide)]
  · refine ⟨fun j hj => ?_, fun j hj => ?_, fun j hj => ?_, ?_, ?_⟩
    · rw [mi_upR, if_neg (fun z => ne _ _ (by omega) z.1), mi_wi]
      show _ = nI (if j = k then kind else sS s j)
      by_cases ej : j = k
      · rw [if_pos ⟨rfl, ej⟩, if_pos ej]
      · rw [if_neg (fun z => ej z.2), if_neg ej]; exact h1 j hj
    · rw [mi_upR, if_pos ⟨rfl, by omega, by omega⟩]; rfl
    · rw [mi_upR, if_neg (fun z => ne _ _ (by omega) z.1), mi_wi, if_neg (fun z => ne _ _ (by omega) z.1)]; exact h3 j hj
    · rw [mi_upR, if_neg (fun z => ne _ _ (by omega) z.1), mi_wi, if_neg (fun z => ne _ _ (by omega) z.1)]; exact h4
    · rw [mi_upR, if_neg (fun z => ne _ _ (by omega) z.1), mi_wi, if_neg (fun z => ne _ _ (by omega) z.1)]; exact h5
theorem within_eq (E : Env1) (M : Mem) (a b c : Int32) : f_X8_within E M a b c = if b ≤ a ∧ a ≤ c then 1 else 0 := by
  unfold f_X8_within
  by_cases h : a < b
  · rw [if_pos h, if_neg (fun z => (Int32.not_le.mpr h) z.1)]
  · rw [if_neg h]
    by_cases h2 : c < a
    · rw [if_pos h2, if_neg (fun z => (Int32.not_le.mpr h2) z.2)]
    · rw [if_neg h2, if_pos ⟨Int32.not_lt.mp h, Int32.not_lt.mp h2⟩]
theorem within_p (E : Env1) (M : Mem) {a b c : Int32} (h1 : b ≤ a) (h2 : a ≤ c) : f_X8_within E M a b c = 1 := by rw [within_eq, if_pos ⟨h1, h2⟩]
def learnS (s : Sd) (i k : Nat) : Sd := (sT s, sC s, sS s, upN (sN s) i (sN s i ||| 2 ^ k), sP s)
theorem okS_learn (h : okS p s) {i k : Nat} (hi : i < p) (hk : k < 8) : okS p (learnS s i k) := by
  obtain ⟨h1, h2, h3, h4, h5, h6⟩ := h
  refine ⟨h1, h2, h3, fun j => ?_, h5, fun j hj => ⟨?_, (h6 j hj).2⟩⟩
  · show (if j = i then sN s i ||| 2 ^ k else sN s j) < 256
    split
    · exact or_lt (n := 8) (h4 i) (Nat.pow_lt_pow_right (by decide) hk)
    · exact h4 j
  · show (if j = i then sN s i ||| 2 ^ k else sN s j) = 0
    rw [if_neg (by omega)]
    exact (h6 j hj).1
theorem learn_sp (hI : ∀ n n', ad n = ad n' → n = n') (hS : SN E ad S) {i k : Nat} (hi : i < 6) (hk : k < 8) (h : CS ad M S s) : ∃ M1, f_X5_learn E M (ad S) (nI i) (nI k) = some M1 ∧ CS ad M1 S (learnS s i k) ∧ Off ad M M1 S (S + 4) := by
  obtain ⟨h1, h2, h3, h4, h5⟩ := h
  have ne : ∀ a b, a ≠ b → ad a ≠ ad b := fun a b h e => h (hI a b e)
  unfold f_X5_learn
  rw [within_p E M (nI_pos' (by omega)) (show nI i ≤ (5 : Int32) from nI_le (a := i) (b := 5) (by omega) (by decide)), if_neg (by decide), gd_nI hi (by decide), ix_nI (by omega), hS.2.1, h2 i hi, shl1 (by omega), nI_or]
  refine ⟨_, rfl, ?_, Off_wi hI M (by omega)⟩
  refine ⟨fun j hj => ?_, fun j hj => ?_, fun j hj => ?_, ?_, ?_⟩
  · rw [mi_wi, if_neg (fun z => ne _ _ (by omega) z.1)]; exact h1 j hj
  · rw [mi_wi]
    show _ = nI (if j = i then sN s i ||| 2 ^ k else sN s j)
    by_cases ej : j = i
    · rw [if_pos ⟨rfl, ej⟩, if_pos ej]
    · rw [if_neg (fun z => ej z.2), if_neg ej]; exact h2 j hj
  · rw [mi_wi, if_neg (fun z => ne _ _ (by omega) z.1)]; exact h3 j hj
  · rw [mi_wi, if_neg (fun z => ne _ _ (by omega) z.1)]; exact h4
  · rw [mi_wi, if_neg (fun z => ne _ _ (by omega) z.1)]; exact h5
def stayS (s : Sd) (i v : Nat) : Sd := (sT s, sC s, sS s, sN s, upN (sP s) i v)
theorem okS_stay (h : okS p s) {i v : Nat} (hi : i < p) (hv : v ≤ 9) : okS p (stayS s i v) := by
  obtain ⟨h1, h2, h3, h4, h5, h6⟩ := h
  refine ⟨h1, h2, h3, h4, fun j => ?_, fun j hj => ⟨(h6 j hj).1, ?_⟩⟩
  · show (if j = i then v else sP s j) ≤ 9
    split
    · exact hv
    · exact h5 j
  · show (if j = i then v else sP s j) = 0
    rw [if_neg (by omega)]
    exact (h6 j hj).2
theorem CS_place (hI : ∀ n n', ad n = ad n' → n = n') {i v : Nat} (h : CS ad M S s) : CS ad (wi M (ad (S + 3)) i (nI v - 1)) S (stayS s i v) := by
  obtain ⟨h1, h2, h3, h4, h5⟩ := h
  have ne : ∀ a b, a ≠ b → ad a ≠ ad b := fun a b h e => h (hI a b e)
  refine ⟨fun j hj => ?_, fun j hj => ?_, fun j hj => ?_, ?_, ?_⟩
  · rw [mi_wi, if_neg (fun z => ne _ _ (by omega) z.1)]; exact h1 j hj
  · rw [mi_wi, if_neg (fun z => ne _ _ (by omega) z.1)]; exact h2 j hj
  · rw [mi_wi]
    show _ = nI (if j = i then v else sP s j) - 1
    by_cases ej : j = i
    · rw [if_pos ⟨rfl, ej⟩, if_pos ej]
    · rw [if_neg (fun z => ej z.2), if_neg ej]; exact h3 j hj
  · rw [mi_wi, if_neg (fun z => ne _ _ (by omega) z.1)]; exact h4
  · rw [mi_wi, if_neg (fun z => ne _ _ (by omega) z.1)]; exact h5
theorem nI_m1 (v : Nat) : nI v = nI (v + 1) - 1 := by rw [← nI_1, Int32.add_sub_cancel]
theorem stayAt_sp (hI : ∀ n n', ad n = ad n' → n = n') (hS : SN E ad S) {i v : Nat} (hi : i < 6) (h : CS ad M S s) : ∃ M1, f_X5_stayAt E M (ad S) (nI i) (nI v) = some M1 ∧ CS ad M1 S (stayS s i (v + 1)) ∧ Off ad M M1 S (S + 4) := by
  unfold f_X5_stayAt
  rw [within_p E M (nI_pos' (by omega)) (show nI i ≤ (5 : Int32) from nI_le (a := i) (b := 5) (by omega) (by decide)), if_neg (by decide), gd_nI hi (by decide), ix_nI (by omega), hS.2.2, nI_m1 v]
  exact ⟨_, rfl, CS_place hI h, Off_wi hI M (by omega)⟩
/-- going up or down -/
def walkS (s : Sd) (i up : Nat) : Sd := if up = 0 then stayS s i (sP s i - 1) else if bears s i (sP s i) then stayS s i (sP s i + 1) else s
theorem walk_sp (hI : ∀ n n', ad n = ad n' → n = n') (hS : SN E ad S) {i up : Nat} (hi : i < 6) (hu : up < 2) (ho : okS p s) (h0 : up = 0 → 0 < sP s i) (h : CS ad M S s) : ∃ M1, f_X5_walk E M (ad S) (nI i) (nI up) = some M1 ∧ CS ad M1 S (walkS s i up) ∧ Off ad M M1 S (S + 4) := by
  unfold f_X5_walk walkS
  rw [gd_nI hi (by decide), ix_nI (by omega), hS.2.2, h.2.2.1 i hi]
  simp only [nIe0 (show up < 2 ^ 31 by omega)]
  by_cases hz : up = 0
  · rw [if_pos hz, if_pos hz]
    obtain ⟨v, hv⟩ : ∃ v, sP s i = v + 1 := ⟨sP s i - 1, by have := h0 hz; omega⟩
    rw [hv, Nat.add_sub_cancel, show nI (v + 1) - 1 - 1 = nI v - 1 by rw [nI_pred]]
    exact ⟨_, rfl, CS_place hI h, Off_wi hI M (by omega)⟩
  · rw [if_neg hz, if_neg hz, bearsAbove_eq hS hi (ho.2.2.2.2.1 i) ho h, Option.bind_some]
    cases hb : bears s i (sP s i)
    · rw [if_pos (by decide), if_neg (by decide)]
      exact ⟨M, rfl, h, Off.rf⟩
    · rw [if_neg (by decide), if_pos rfl, pl_up']
      exact ⟨_, rfl, CS_place hI h, Off_wi hI M (by omega)⟩
theorem okS_walk {i up : Nat} (hi : i < p) (ho : okS p s) (h1 : up ≠ 0 → sP s i < 9) : okS p (walkS s i up) := by
  unfold walkS
  split
  · exact okS_stay ho hi (by have := ho.2.2.2.2.1 i; omega)
  · split
    · exact okS_stay ho hi (by rename_i h _; have := h1 h; omega)
    · exact ho
/-- the cells of one stand are the cells of another -/
def CE (ad : Nat → Nat) (M1 : Mem) (S : Nat) (M : Mem) (S' : Nat) : Prop := (∀ k, k < 8 → mi M1 (ad (S + 1)) k = mi M (ad (S' + 1)) k) ∧ (∀ i, i < 6 → mi M1 (ad (S + 2)) i = mi M (ad (S' + 2)) i) ∧ (∀ i, i < 6 → mi M1 (ad (S + 3)) i = mi M (ad (S' + 3)) i) ∧ mi M1 (ad S) 3 = mi M (ad S') 3 ∧ mi M1 (ad S) 4 = mi M (ad S') 4
theorem CS_CE {S' : Nat} (h : CE ad M1 S M S') (hs : CS ad M S' s) : CS ad M1 S s := by
  obtain ⟨h1, h2, h3, h4, h5⟩ := hs
  obtain ⟨g1, g2, g3, g4, g5⟩ := h
  exact ⟨fun k hk => (g1 k hk).trans (h1 k hk), fun k hk => (g2 k hk).trans (h2 k hk), fun k hk => (g3 k hk).trans (h3 k hk), g4.trans h4, g5.trans h5⟩
theorem copyStand_sp (hI : ∀ n n', ad n = ad n' → n = n') {S' : Nat} (hS : SN E ad S) (hS' : SN E ad S') (hd : S + 4 ≤ S' ∨ S' + 4 ≤ S) (M : Mem) : ∃ M1, f_X5_copyFrom E M (ad S) (ad S') = some M1 ∧ CE ad M1 S M S' ∧ Off ad M M1 S (S + 4) := by
  have ne : ∀ a b, a ≠ b → ad a ≠ ad b := fun a b h e => h (hI a b e)
  unfold f_X5_copyFrom
  obtain ⟨n, e⟩ := loop_FU (fun n (a : Mem) w => f_X5_copyFrom_L2 E n a (ad S) (ad S') w) (fun j => upR M (ad (S + 1)) 0 j (fun k => mi M (ad (S' + 1)) k)) 8 (by decide) (by
    intro n j hj
    show b_X5_copyFrom_L2 E (f_X5_copyFrom_L2 E n) _ (ad S) (ad S') (nI j) = _
    unfold b_X5_copyFrom_L2
    rw [if_neg (lt8 hj), gd_nI hj (by decide), ix_nI (by omega), hS.1, hS'.1, mi_upR, if_neg (fun z => ne _ _ (by omega) z.1), nI_1, upR_s _ _ _ _ _ _ (by omega) _ rfl])
  rw [upR_0] at e
  rw [e]
  show ∃ M1, b_X5_copyFrom_L2 E (f_X5_copyFrom_L2 E n) _ (ad S) (ad S') (nI 8) = some M1 ∧ _
  unfold b_X5_copyFrom_L2
  rw [if_pos (by decide)]
  generalize hMa : upR M (ad (S + 1)) 0 8 (fun k => mi M (ad (S' + 1)) k) = Ma
  obtain ⟨n', e'⟩ := loop_FU (fun n (a : Mem) w => f_X5_copyFrom_L28 E n a (ad S) (ad S') w) (fun j => upR (upR Ma (ad (S + 2)) 0 j (fun k => mi Ma (ad (S' + 2)) k)) (ad (S + 3)) 0 j (fun k => mi Ma (ad (S' + 3)) k)) 6 (by decide) (by
    intro n j hj
    show b_X5_copyFrom_L28 E (f_X5_copyFrom_L28 E n) _ (ad S) (ad S') (nI j) = _
    unfold b_X5_copyFrom_L28
    dsimp only [nm]
    rw [if_neg (lt6 hj), gd_nI hj (by decide), ix_nI (by omega), hS.2.1, hS'.2.1, hS.2.2, hS'.2.2, nI_1]
    rw [upR_s2 Ma (ad (S + 2)) 0 (ad (S + 3)) 0 j _ _ (fun _ _ _ _ z => ne _ _ (by omega) z.1) j j (by omega) (by omega) _ _ (by rw [mi_upR, if_neg (fun z => ne _ _ (by omega) z.1), mi_upR, if_neg (fun z => ne _ _ (by omega) z.1)]) (by rw [mi_wi, if_neg (fun z => ne _ _ (by omega) z.1), mi_upR, if_neg (fun z => ne _ _ (by omega) z.1), mi_upR, if_neg (fun z => ne _ _ (by omega) z.1)])])
  rw [upR_0, upR_0] at e'
  rw [e']
  show ∃ M1, b_X5_copyFrom_L28 E (f_X5_copyFrom_L28 E n') _ (ad S) (ad S') (nI 6) = some M1 ∧ _
  unfold b_X5_copyFrom_L28
  rw [if_pos (by decide)]
  subst hMa
  refine ⟨_, rfl, ⟨fun k hk => ?_, fun k hk => ?_, fun k hk => ?_, ?_, ?_⟩, ((((Off_upR hI M (by omega)).tr (Off_upR hI _ (by omega))).tr (Off_upR hI _ (by omega))).tr (Off_wi hI _ (by omega))).tr (Off_wi hI _ (by omega))⟩
  · simp only [mi_wi, mi_upR]
    rw [if_neg (fun z => ne _ _ (by omega) z.1), if_neg (fun z => ne _ _ (by omega) z.1), if_neg (fun z => ne _ _ (by omega) z.1), if_neg (fun z => ne _ _ (by omega) z.1), if_pos ⟨trivial, by omega, by omega⟩]
    rfl
  · simp only [mi_wi, mi_upR]
    rw [if_neg (fun z => ne _ _ (by omega) z.1), if_neg (fun z => ne _ _ (by omega) z.1), if_neg (fun z => ne _ _ (by omega) z.1), if_pos ⟨trivial, by omega, by omega⟩, if_neg (fun z => ne _ _ (by omega) z.1)]
    rfl
  · simp only [mi_wi, mi_upR]
    rw [if_neg (fun z => ne _ _ (by omega) z.1), if_neg (fun z => ne _ _ (by omega) z.1), if_pos ⟨trivial, by omega, by omega⟩, if_neg (fun z => ne _ _ (by omega) z.1)]
    rfl
  · simp only [mi_wi, mi_upR]
    rw [if_neg (by omega), if_pos ⟨trivial, trivial⟩, if_neg (fun z => ne _ _ (by omega) z.1), if_neg (fun z => ne _ _ (by omega) z.1), if_neg (fun z => ne _ _ (by omega) z.1)]
  · simp only [mi_wi, mi_upR]
    rw [if_pos ⟨trivial, trivial⟩, if_neg (fun z => ne _ _ (by omega) z.1), if_neg (fun z => ne _ _ (by omega) z.1), if_neg (fun z => ne _ _ (by omega) z.1), if_neg (fun z => ne _ _ (by omega) z.1)]
/-- a stand anew -/
def newS : Sd := (0, 0, fun _ => 0, fun _ => 0, fun _ => 0)
theorem okS_new (p : Nat) : okS p newS := ⟨by decide, by decide, fun _ _ => (by decide : 0 < 6), fun _ => (by decide : 0 < 256), fun _ => (by decide : 0 ≤ 9), fun _ _ => ⟨rfl, rfl⟩⟩
theorem reset_sp (hI : ∀ n n', ad n = ad n' → n = n') (hS : SN E ad S) (M : Mem) : ∃ M1, f_X5_reset E M (ad S) = some M1 ∧ CS ad M1 S newS ∧ Off ad M M1 S (S + 4) := by
  have ne : ∀ a b, a ≠ b → ad a ≠ ad b := fun a b h e => h (hI a b e)
  obtain ⟨M1, e, h, h2⟩ := reset_spec E M (ad S)
  rw [hS.1, hS.2.1, hS.2.2] at h
  refine ⟨M1, e, ⟨fun k hk => ?_, fun k hk => ?_, fun k hk => ?_, ?_, ?_⟩, fun n hn k => ?_, h2⟩
  · rw [h, if_neg (fun z => ne _ _ (by omega) z.1), if_neg (fun z => ne _ _ (by omega) z.1), if_neg (fun z => ne _ _ (by omega) z.1), if_pos ⟨rfl, hk⟩]; rfl
  · rw [h, if_neg (fun z => ne _ _ (by omega) z.1), if_neg (fun z => ne _ _ (by omega) z.1), if_pos ⟨rfl, hk⟩]; rfl
  · rw [h, if_neg (fun z => ne _ _ (by omega) z.1), if_pos ⟨rfl, hk⟩]; rfl
  · rw [h, if_pos ⟨rfl, Or.inl rfl⟩]; rfl
  · rw [h, if_pos ⟨rfl, Or.inr rfl⟩]; rfl
  · rw [h, if_neg (fun z => ne _ _ (by omega) z.1), if_neg (fun z => ne _ _ (by omega) z.1), if_neg (fun z => ne _ _ (by omega) z.1), if_neg (fun z => ne _ _ (by omega) z.1)]
end Stand33
