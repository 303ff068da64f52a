/-! reading a text: places and tokens -/
section Al58
def rnF (B : Nat → Nat) (t lo hi : Nat) : Nat → Nat → Nat
  | 0, q => q
  | f + 1, q => if q < t ∧ lo ≤ B q ∧ B q ≤ hi then rnF B t lo hi f (q + 1) else q
/-- behind a run of such bytes -/
def rn (B : Nat → Nat) (t lo hi q : Nat) : Nat := rnF B t lo hi 151 q
theorem rnF_ge (B : Nat → Nat) (t lo hi : Nat) : ∀ f q, q ≤ rnF B t lo hi f q := by
  intro f
  induction f with
  | zero => intro q; exact Nat.le_refl _
  | succ f ih =>
    intro q
    show q ≤ if _ then _ else _
    split
    · exact Nat.le_trans (by omega) (ih (q + 1))
    · exact Nat.le_refl _
theorem rnF_le (B : Nat → Nat) (t lo hi : Nat) : ∀ f q, q ≤ t → rnF B t lo hi f q ≤ t := by
  intro f
  induction f with
  | zero => intro q h; exact h
  | succ f ih =>
    intro q h
    show (if _ then _ else _) ≤ t
    split
    · rename_i g; exact ih (q + 1) (by omega)
    · exact h
theorem rnF_in (B : Nat → Nat) (t lo hi : Nat) : ∀ f q j, q ≤ j → j < rnF B t lo hi f q → j < t ∧ lo ≤ B j ∧ B j ≤ hi := by
  intro f
  induction f with
  | zero => intro q j h1 h2; have h2 : j < q := h2; omega
  | succ f ih =>
    intro q j h1 h2
    have h2 : j < (if q < t ∧ lo ≤ B q ∧ B q ≤ hi then rnF B t lo hi f (q + 1) else q) := h2
    split at h2
    · rename_i g
      by_cases e : j = q
      · subst e; exact g
      · exact ih (q + 1) j (by omega) h2
    · omega
theorem rnF_end (B : Nat → Nat) (t lo hi : Nat) : ∀ f q, t - q < f → ¬ (rnF B t lo hi f q < t ∧ lo ≤ B (rnF B t lo hi f q) ∧ B (rnF B t lo hi f q) ≤ hi) := by
  intro f
  induction f with
  | zero => intro q h; omega
  | succ f ih =>
    intro q h
    by_cases g : q < t ∧ lo ≤ B q ∧ B q ≤ hi
    · have e : rnF B t lo hi (f + 1) q = rnF B t lo hi f (q + 1) := if_pos g
      rw [e]
      exact ih (q + 1) (by omega)
    · have e : rnF B t lo hi (f + 1) q = q := if_neg g
      rw [e]
      exact g
theorem rnF_st {B : Nat → Nat} {t lo hi q : Nat} (g : ¬ (q < t ∧ lo ≤ B q ∧ B q ≤ hi)) : ∀ f, rnF B t lo hi f q = q := by
  intro f
  cases f with
  | zero => rfl
  | succ f => exact if_neg g
def sk (B : Nat → Nat) (t q : Nat) : Nat := rn B t 32 32 q
theorem sk_ge (B : Nat → Nat) (t q : Nat) : q ≤ sk B t q := rnF_ge _ _ _ _ _ _
theorem sk_le {B : Nat → Nat} {t q : Nat} (h : q ≤ t) : sk B t q ≤ t := rnF_le _ _ _ _ _ _ h
theorem sk_sk {B : Nat → Nat} {t q : Nat} (h : t ≤ 150) : sk B t (sk B t q) = sk B t q := rnF_st (rnF_end B t 32 32 151 q (by omega)) _
/-- a number's worth -/
def nv (B : Nat → Nat) (s k : Nat) : Nat := if k = 0 then 0 else if k = 1 then B s - 48 else 10 * (B s - 48) + (B (s + 1) - 48)
def pn (B : Nat → Nat) (t : Nat) (lo hi : Int32) (q : Nat) : Option (Nat × Nat) :=
  if (1 ≤ rn B t 48 57 (sk B t q) - sk B t q ∧ rn B t 48 57 (sk B t q) - sk B t q ≤ 2) ∧ lo ≤ nI (nv B (sk B t q) (rn B t 48 57 (sk B t q) - sk B t q)) ∧ nI (nv B (sk B t q) (rn B t 48 57 (sk B t q) - sk B t q)) ≤ hi then some (nv B (sk B t q) (rn B t 48 57 (sk B t q) - sk B t q), rn B t 48 57 (sk B t q)) else none
def en (B : Nat → Nat) (t q : Nat) : Option Nat := if sk B t q < t ∧ B (sk B t q) = 59 then some (sk B t q + 1) else none
def wdI (B : Nat → Nat) (t s : Nat) : Int32 :=
  if rn B t 97 122 s - s = 2 then (if B (s + 0) = 97 ∧ B (s + 1) = 116 then 4 else -1)
  else if rn B t 97 122 s - s = 3 then (if B (s + 0) = 111 ∧ B (s + 1) = 110 ∧ B (s + 2) = 101 then 1 else -1)
  else if rn B t 97 122 s - s = 5 then (if B (s + 0) = 104 ∧ B (s + 1) = 111 ∧ B (s + 2) = 117 ∧ B (s + 3) = 115 ∧ B (s + 4) = 101 then 0 else if B (s + 0) = 107 ∧ B (s + 1) = 110 ∧ B (s + 2) = 111 ∧ B (s + 3) = 119 ∧ B (s + 4) = 115 then 2 else -1)
  else if rn B t 97 122 s - s = 6 then (if B (s + 0) = 99 ∧ B (s + 1) = 97 ∧ B (s + 2) = 114 ∧ B (s + 3) = 112 ∧ B (s + 4) = 101 ∧ B (s + 5) = 116 then 3 else -1)
  else if rn B t 97 122 s - s = 7 then (if B (s + 0) = 109 ∧ B (s + 1) = 105 ∧ B (s + 2) = 110 ∧ B (s + 3) = 117 ∧ B (s + 4) = 116 ∧ B (s + 5) = 101 ∧ B (s + 6) = 115 then 5 else -1)
  else -1
variable {E : Env1} {ad : Nat → Nat} {M M1 M2 : Mem} {B : Nat → Nat} {t : Nat}
theorem wi_nI (E : Env1) (M : Mem) {a b c : Nat} (ha : a < 2 ^ 31) (hb : b < 2 ^ 31) (hc : c < 2 ^ 31) : f_X8_within E M (nI a) (nI b) (nI c) = if b ≤ a ∧ a ≤ c then 1 else 0 := by
  rw [within_eq]
  simp only [nI_leI hb ha, nI_leI ha hc]
/-! the class's tokens -/
def T8 (ad : Nat → Nat) (M : Mem) (B : Nat → Nat) (t : Nat) : Prop := t ≤ 150 ∧ mi M (ad 54) 0 = nI t ∧ ∀ i, i < t → mi M (ad 56) i = nI (B i) ∧ B i < 128
theorem byteAt_sp (hN : Nm E (ad 50) (ad 0) ad) (T : T8 ad M B t) {q : Nat} (hq : q ≤ 300) : f_X7_byteAt E M (ad 54) (nI q) = some (if q < t then nI (B q) else -1) := by
  unfold f_X7_byteAt
  have h150 := T.1
  have ew : f_X8_within E M (nI q) (0 : Int32) (149 : Int32) = if 0 ≤ q ∧ q ≤ 149 then 1 else 0 := wi_nI E M (a := q) (b := 0) (c := 149) (by omega) (by decide) (by decide)
  rw [ew, T.2.1]
  by_cases e : q < t
  · rw [if_pos e, if_pos (show 0 ≤ q ∧ q ≤ 149 by omega), if_neg I10, if_neg (nI_ge (a := q) (b := t) e (by omega)), gd_nI (by omega) (by decide), ix_nI (by omega), n_56 hN, (T.2.2 q e).1]
  · rw [if_neg e]
    by_cases g : q ≤ 149
    · rw [if_pos (show 0 ≤ q ∧ q ≤ 149 by omega), if_neg I10, if_pos (nI_le (a := t) (b := q) (by omega) (by omega))]
    · rw [if_neg (show ¬ (0 ≤ q ∧ q ≤ 149) from fun z => g z.2), if_pos rfl]
theorem run8L (hN : Nm E (ad 50) (ad 0) ad) (T : T8 ad M B t) {lo hi : Nat} (hlo : lo < 2 ^ 31) (hhi : hi < 2 ^ 31) : ∀ f n q, q ≤ t → t - q < f → t - q < n → f_X7_behindRun_L3 E M n (ad 54) (nI lo) (nI hi) (nI q) = some (nI (rnF B t lo hi f q)) := by
  intro f
  induction f with
  | zero => intro n q _ h; omega
  | succ f ih =>
    intro n q hq hf hn
    have h150 := T.1
    obtain ⟨n, rfl⟩ : ∃ n', n = n' + 1 := ⟨n - 1, by omega⟩
    show b_X7_behindRun_L3 E M (f_X7_behindRun_L3 E M n) (ad 54) (nI lo) (nI hi) (nI q) = some (nI (if q < t ∧ lo ≤ B q ∧ B q ≤ hi then rnF B t lo hi f (q + 1) else q))
    unfold b_X7_behindRun_L3
    rw [T.2.1]
    by_cases e : q < t
    · have hB := (T.2.2 q e).2
      rw [if_neg (nI_ge (a := q) (b := t) e (by omega)), byteAt_sp hN T (by omega), Option.bind_some, if_pos e, wi_nI E M (by omega) hlo hhi, nI_1]
      by_cases g : lo ≤ B q ∧ B q ≤ hi
      · rw [if_pos g, if_neg I10, if_pos ⟨e, g⟩]
        exact ih n (q + 1) (by omega) (by omega) (by omega)
      · rw [if_neg g, if_pos rfl, if_neg (fun z => g z.2)]
    · rw [if_pos (nI_le (a := t) (b := q) (by omega) (by omega)), if_neg (fun z => e z.1), show t = q by omega]
theorem run8 (hN : Nm E (ad 50) (ad 0) ad) (T : T8 ad M B t) {lo hi q : Nat} (hlo : lo < 2 ^ 31) (hhi : hi < 2 ^ 31) (hq : q ≤ t) : f_X7_behindRun E M (ad 54) (nI q) (nI lo) (nI hi) = some (nI (rn B t lo hi q)) := run8L hN T hlo hhi 151 FU q hq (by have := T.1; omega) (by have := T.1; unfold FU; omega)
theorem fig (b : Nat) (a : Nat) (h : 48 ≤ b) : ((10 : Int32) * nI a + nI b) - (48 : Int32) = nI (10 * a + (b - 48)) := by
  rw [show (10 : Int32) = nI 10 from rfl, show (48 : Int32) = nI 48 from rfl, pk_mul, nI_add, pk_sub (by omega)]
  congr 1
  omega
theorem num8v (hN : Nm E (ad 50) (ad 0) ad) (T : T8 ad M B t) {s e : Nat} (hse : s < e) (he : e ≤ t) (hd : ∀ j, s ≤ j → j < e → 48 ≤ B j) (h2 : mi M (ad 54) 2 = nI s) (h3 : mi M (ad 54) 3 = nI e) : f_X7_numberRead E M (ad 54) = some (nI (nv B s (e - s))) := by
  have h150 := T.1
  have n2 : nI s + (2 : Int32) = nI (s + 2) := nI_add _ 2
  unfold f_X7_numberRead
  rw [h2]
  show b_X7_numberRead_L7 E M (f_X7_numberRead_L7 E M 999) (ad 54) (nI 0) (nI s) = _
  unfold b_X7_numberRead_L7
  rw [h2, h3, n2, if_neg (nI_ge (a := s) (b := e) hse (by omega)), if_neg (nI_ge (a := s) (b := s + 2) (by omega) (by omega)), byteAt_sp hN T (by omega), Option.bind_some, nm_v, if_pos (by omega), fig _ _ (hd s (by omega) hse), nI_1]
  show b_X7_numberRead_L7 E M (f_X7_numberRead_L7 E M 998) (ad 54) (nI (10 * 0 + (B s - 48))) (nI (s + 1)) = _
  unfold b_X7_numberRead_L7
  rw [h2, h3, n2]
  by_cases e1 : e ≤ s + 1
  · rw [if_pos (nI_le e1 (by omega))]
    unfold nv
    rw [if_neg (by omega), if_pos (by omega)]
    congr 2
    omega
  · rw [if_neg (nI_ge (a := s + 1) (b := e) (by omega) (by omega)), if_neg (nI_ge (a := s + 1) (b := s + 2) (by omega) (by omega)), byteAt_sp hN T (by omega), Option.bind_some, nm_v, if_pos (by omega), fig _ _ (hd (s + 1) (by omega) (by omega)), nI_1]
    show b_X7_numberRead_L7 E M (f_X7_numberRead_L7 E M 997) (ad 54) (nI (10 * (10 * 0 + (B s - 48)) + (B (s + 1) - 48))) (nI (s + 2)) = _
    unfold b_X7_numberRead_L7
    have eq : 10 * (10 * 0 + (B s - 48)) + (B (s + 1) - 48) = nv B s (e - s) := by
      unfold nv
      rw [if_neg (by omega), if_neg (by omega)]
      omega
    rw [h2, h3, n2, eq, if_pos (show nI (s + 2) ≤ nI (s + 2) from nI_le (Nat.le_refl _) (by omega))]
    split <;> rfl
/-! words -/
def rdB (B : Nat → Nat) (s e k : Nat) : Bool := decide (slen k = e - s ∧ ∀ j, j < slen k → nI (B (s + j)) = sch k j)
theorem reads8 (hN : Nm E (ad 50) (ad 0) ad) (T : T8 ad M B t) {s e k : Nat} (hk : k < 6) (hse : s ≤ e) (he : e ≤ t) (h2 : mi M (ad 54) 2 = nI s) (h3 : mi M (ad 54) 3 = nI e) : f_X7_reads E M (ad 54) k = some (if rdB B s e k then 1 else 0) := by
  have h150 := T.1
  have hl : slen k < 8 := by
    have : ∀ k, k < 6 → slen k < 8 := by decide
    exact this k hk
  have eo : Int32.ofNat (slen k) = nI (slen k) := rfl
  unfold f_X7_reads rdB
  rw [h2, h3, pk_sub hse, eo]
  simp only [nIe (show slen k < 2 ^ 31 by omega) (show e - s < 2 ^ 31 by omega)]
  by_cases el : slen k = e - s
  · rw [if_pos el]
    refine loop_QFU (fun q (_ : Unit) w => f_X7_reads_L20 E M q (ad 54) k w) (fun j _ => ∀ j', j' < j → nI (B (s + j')) = sch k j') (fun y => y = some (if decide (slen k = e - s ∧ ∀ j, j < slen k → nI (B (s + j)) = sch k j) = true then 1 else 0)) (slen k) (by omega) () (fun j h => absurd h (Nat.not_lt_zero _)) ?_ ?_
    · intro q j _ hj hx
      show (∃ s', b_X7_reads_L20 E M (f_X7_reads_L20 E M q) (ad 54) k (nI j) = f_X7_reads_L20 E M q (ad 54) k (nI (j + 1)) ∧ _) ∨ b_X7_reads_L20 E M (f_X7_reads_L20 E M q) (ad 54) k (nI j) = _
      unfold b_X7_reads_L20
      rw [eo, if_neg (nI_ge (a := j) (b := slen k) hj (by omega)), h2, nI_add, byteAt_sp hN T (by omega), Option.bind_some, if_pos (show s + j < t by omega), gd_nI hj (by omega), ix_nI (by omega), nI_1]
      by_cases g : nI (B (s + j)) = sch k j
      · rw [if_pos g]
        refine Or.inl ⟨(), rfl, fun j' hj' => ?_⟩
        by_cases e2 : j' = j
        · subst e2; exact g
        · exact hx j' (by omega)
      · rw [if_neg g, decide_eq_false (fun z => g (z.2 j hj))]
        exact Or.inr rfl
    · intro q _ hx
      show b_X7_reads_L20 E M (f_X7_reads_L20 E M q) (ad 54) k (nI (slen k)) = _
      unfold b_X7_reads_L20
      rw [eo, if_pos (nI_le (Nat.le_refl _) (by omega)), decide_eq_true ⟨el, hx⟩]
      rfl
  · rw [if_neg el, decide_eq_false (fun z => el z.1)]
    rfl
theorem rdB_0 {s e : Nat} (hb : ∀ j, s ≤ j → j < e → B j < 128) (hse : s ≤ e) : (rdB B s e 0 = true) = (e - s = 5 ∧ B (s + 0) = 104 ∧ B (s + 1) = 111 ∧ B (s + 2) = 117 ∧ B (s + 3) = 115 ∧ B (s + 4) = 101) := propext ⟨fun z => by
    have z := of_decide_eq_true z
    have h0 : slen 0 = 5 := by decide
    rw [h0] at z
    obtain ⟨z1, z2⟩ := z
    exact ⟨z1.symm, (nI_eq (b := 104) (Nat.lt_trans (hb _ (by omega) (by omega)) (by decide)) (by decide)).mp ((z2 0 (by omega)).trans (by decide)), (nI_eq (b := 111) (Nat.lt_trans (hb _ (by omega) (by omega)) (by decide)) (by decide)).mp ((z2 1 (by omega)).trans (by decide)), (nI_eq (b := 117) (Nat.lt_trans (hb _ (by omega) (by omega)) (by decide)) (by decide)).mp ((z2 2 (by omega)).trans (by decide)), (nI_eq (b := 115) (Nat.lt_trans (hb _ (by omega) (by omega)) (by decide)) (by decide)).mp ((z2 3 (by omega)).trans (by decide)), (nI_eq (b := 101) (Nat.lt_trans (hb _ (by omega) (by omega)) (by decide)) (by decide)).mp ((z2 4 (by omega)).trans (by decide))⟩, fun z => by
    obtain ⟨z0, y0, y1, y2, y3, y4⟩ := z
    refine decide_eq_true ⟨?_, fun j hj => ?_⟩
    · rw [z0]; decide
    · have h0 : slen 0 = 5 := by decide
      rw [h0] at hj
      rcases (show j = 0 ∨ j = 1 ∨ j = 2 ∨ j = 3 ∨ j = 4 by omega) with rfl | rfl | rfl | rfl | rfl
      · rw [y0]; decide
      · rw [y1]; decide
      · rw [y2]; decide
      · rw [y3]; decide
      · rw [y4]; decide⟩
theorem rdB_1 {s e : Nat} (hb : ∀ j, s ≤ j → j < e → B j < 128) (hse : s ≤ e) : (rdB B s e 1 = true) = (e - s = 3 ∧ B (s + 0) = 111 ∧ B (s + 1) = 110 ∧ B (s + 2) = 101) := propext ⟨fun z => by
    have z := of_decide_eq_true z
    have h0 : slen 1 = 3 := by decide
    rw [h0] at z
    obtain ⟨z1, z2⟩ := z
    exact ⟨z1.symm, (nI_eq (b := 111) (Nat.lt_trans (hb _ (by omega) (by omega)) (by decide)) (by decide)).mp ((z2 0 (by omega)).trans (by decide)), (nI_eq (b := 110) (Nat.lt_trans (hb _ (by omega) (by omega)) (by decide)) (by decide)).mp ((z2 1 (by omega)).trans (by decide)), (nI_eq (b := 101) (Nat.lt_trans (hb _ (by omega) (by omega)) (by decide)) (by decide)).mp ((z2 2 (by omega)).trans (by decide))⟩, fun z => by
    obtain ⟨z0, y0, y1, y2⟩ := z
    refine decide_eq_true ⟨?_, fun j hj => ?_⟩
    · rw [z0]; decide
    · have h0 : slen 1 = 3 := by decide
      rw [h0] at hj
      rcases (show j = 0 ∨ j = 1 ∨ j = 2 by omega) with rfl | rfl | rfl
      · rw [y0]; decide
      · rw [y1]; decide
      · rw [y2]; decide⟩
theorem rdB_2 {s e : Nat} (hb : ∀ j, s ≤ j → j < e → B j < 128) (hse : s ≤ e) : (rdB B s e 2 = true) = (e - s = 5 ∧ B (s + 0) = 107 ∧ B (s + 1) = 110 ∧ B (s + 2) = 111 ∧ B (s + 3) = 119 ∧ B (s + 4) = 115) := propext ⟨fun z => by
    have z := of_decide_eq_true z
    have h0 : slen 2 = 5 := by decide
    rw [h0] at z
    obtain ⟨z1, z2⟩ := z
    exact ⟨z1.symm, (nI_eq (b := 107) (Nat.lt_trans (hb _ (by omega) (by omega)) (by decide)) (by decide)).mp ((z2 0 (by omega)).trans (by decide)), (nI_eq (b := 110) (Nat.lt_trans (hb _ (by omega) (by omega)) (by decide)) (by decide)).mp ((z2 1 (by omega)).trans (by decide)), (nI_eq (b := 111) (Nat.lt_trans (hb _ (by omega) (by omega)) (by decide)) (by decide)).mp ((z2 2 (by omega)).trans (by decide)), (nI_eq (b := 119) (Nat.lt_trans (hb _ (by omega) (by omega)) (by decide)) (by decide)).mp ((z2 3 (by omega)).trans (by decide)), (nI_eq (b := 115) (Nat.lt_trans (hb _ (by omega) (by omega)) (by decide)) (by decide)).mp ((z2 4 (by omega)).trans (by decide))⟩, fun z => by
    obtain ⟨z0, y0, y1, y2, y3, y4⟩ := z
    refine decide_eq_true ⟨?_, fun j hj => ?_⟩
    · rw [z0]; decide
    · have h0 : slen 2 = 5 := by decide
      rw [h0] at hj
      rcases (show j = 0 ∨ j = 1 ∨ j = 2 ∨ j = 3 ∨ j = 4 by omega) with rfl | rfl | rfl | rfl | rfl
      · rw [y0]; decide
      · rw [y1]; decide
      · rw [y2]; decide
      · rw [y3]; decide
      · rw [y4]; decide⟩
theorem rdB_3 {s e : Nat} (hb : ∀ j, s ≤ j → j < e → B j < 128) (hse : s ≤ e) : (rdB B s e 3 = true) = (e - s = 6 ∧ B (s + 0) = 99 ∧ B (s + 1) = 97 ∧ B (s + 2) = 114 ∧ B (s + 3) = 112 ∧ B (s + 4) = 101 ∧ B (s + 5) = 116) := propext ⟨fun z => by
    have z := of_decide_eq_true z
    have h0 : slen 3 = 6 := by decide
    rw [h0] at z
    obtain ⟨z1, z2⟩ := z
    exact ⟨z1.symm, (nI_eq (b := 99) (Nat.lt_trans (hb _ (by omega) (by omega)) (by decide)) (by decide)).mp ((z2 0 (by omega)).trans (by decide)), (nI_eq (b := 97) (Nat.lt_trans (hb _ (by omega) (by omega)) (by decide)) (by decide)).mp ((z2 1 (by omega)).trans (by decide)), (nI_eq (b := 114) (Nat.lt_trans (hb _ (by omega) (by omega)) (by decide)) (by decide)).mp ((z2 2 (by omega)).trans (by decide)), (nI_eq (b := 112) (Nat.lt_trans (hb _ (by omega) (by omega)) (by decide)) (by decide)).mp ((z2 3 (by omega)).trans (by decide)), (nI_eq (b := 101) (Nat.lt_trans (hb _ (by omega) (by omega)) (by decide)) (by decide)).mp ((z2 4 (by omega)).trans (by decide)), (nI_eq (b := 116) (Nat.lt_trans (hb _ (by omega) (by omega)) (by decide)) (by decide)).mp ((z2 5 (by omega)).trans (by decide))⟩, fun z => by
    obtain ⟨z0, y0, y1, y2, y3, y4, y5⟩ := z
    refine decide_eq_true ⟨?_, fun j hj => ?_⟩
    · rw [z0]; decide
    · have h0 : slen 3 = 6 := by decide
      rw [h0] at hj
      rcases (show j = 0 ∨ j = 1 ∨ j = 2 ∨ j = 3 ∨ j = 4 ∨ j = 5 by omega) with rfl | rfl | rfl | rfl | rfl | rfl
      · rw [y0]; decide
      · rw [y1]; decide
      · rw [y2]; decide
      · rw [y3]; decide
      · rw [y4]; decide
      · rw [y5]; decide⟩
theorem rdB_4 {s e : Nat} (hb : ∀ j, s ≤ j → j < e → B j < 128) (hse : s ≤ e) : (rdB B s e 4 = true) = (e - s = 2 ∧ B (s + 0) = 97 ∧ B (s + 1) = 116) := propext ⟨fun z => by
    have z := of_decide_eq_true z
    have h0 : slen 4 = 2 := by decide
    rw [h0] at z
    obtain ⟨z1, z2⟩ := z
    exact ⟨z1.symm, (nI_eq (b := 97) (Nat.lt_trans (hb _ (by omega) (by omega)) (by decide)) (by decide)).mp ((z2 0 (by omega)).trans (by decide)), (nI_eq (b := 116) (Nat.lt_trans (hb _ (by omega) (by omega)) (by decide)) (by decide)).mp ((z2 1 (by omega)).trans (by decide))⟩, fun z => by
    obtain ⟨z0, y0, y1⟩ := z
    refine decide_eq_true ⟨?_, fun j hj => ?_⟩
    · rw [z0]; decide
    · have h0 : slen 4 = 2 := by decide
      rw [h0] at hj
      rcases (show j = 0 ∨ j = 1 by omega) with rfl | rfl
      · rw [y0]; decide
      · rw [y1]; decide⟩
theorem rdB_5 {s e : Nat} (hb : ∀ j, s ≤ j → j < e → B j < 128) (hse : s ≤ e) : (rdB B s e 5 = true) = (e - s = 7 ∧ B (s + 0) = 109 ∧ B (s + 1) = 105 ∧ B (s + 2) = 110 ∧ B (s + 3) = 117 ∧ B (s + 4) = 116 ∧ B (s + 5) = 101 ∧ B (s + 6) = 115) := propext ⟨fun z => by
    have z := of_decide_eq_true z
    have h0 : slen 5 = 7 := by decide
    rw [h0] at z
    obtain ⟨z1, z2⟩ := z
    exact ⟨z1.symm, (nI_eq (b := 109) (Nat.lt_trans (hb _ (by omega) (by omega)) (by decide)) (by decide)).mp ((z2 0 (by omega)).trans (by decide)), (nI_eq (b := 105) (Nat.lt_trans (hb _ (by omega) (by omega)) (by decide)) (by decide)).mp ((z2 1 (by omega)).trans (by decide)), (nI_eq (b := 110) (Nat.lt_trans (hb _ (by omega) (by omega)) (by decide)) (by decide)).mp ((z2 2 (by omega)).trans (by decide)), (nI_eq (b := 117) (Nat.lt_trans (hb _ (by omega) (by omega)) (by decide)) (by decide)).mp ((z2 3 (by omega)).trans (by decide)), (nI_eq (b := 116) (Nat.lt_trans (hb _ (by omega) (by omega)) (by decide)) (by decide)).mp ((z2 4 (by omega)).trans (by decide)), (nI_eq (b := 101) (Nat.lt_trans (hb _ (by omega) (by omega)) (by decide)) (by decide)).mp ((z2 5 (by omega)).trans (by decide)), (nI_eq (b := 115) (Nat.lt_trans (hb _ (by omega) (by omega)) (by decide)) (by decide)).mp ((z2 6 (by omega)).trans (by decide))⟩, fun z => by
    obtain ⟨z0, y0, y1, y2, y3, y4, y5, y6⟩ := z
    refine decide_eq_true ⟨?_, fun j hj => ?_⟩
    · rw [z0]; decide
    · have h0 : slen 5 = 7 := by decide
      rw [h0] at hj
      rcases (show j = 0 ∨ j = 1 ∨ j = 2 ∨ j = 3 ∨ j = 4 ∨ j = 5 ∨ j = 6 by omega) with rfl | rfl | rfl | rfl | rfl | rfl | rfl
      · rw [y0]; decide
      · rw [y1]; decide
      · rw [y2]; decide
      · rw [y3]; decide
      · rw [y4]; decide
      · rw [y5]; decide
      · rw [y6]; decide⟩
theorem word8 (hN : Nm E (ad 50) (ad 0) ad) (T : T8 ad M B t) {s : Nat} (hs : s ≤ t) (h2 : mi M (ad 54) 2 = nI s) (h3 : mi M (ad 54) 3 = nI (rn B t 97 122 s)) : f_X7_wordRead E M (ad 54) = some (wdI B t s) := by
  have he : rn B t 97 122 s ≤ t := rnF_le _ _ _ _ _ _ hs
  have hse : s ≤ rn B t 97 122 s := rnF_ge _ _ _ _ _ _
  have hb : ∀ j, s ≤ j → j < rn B t 97 122 s → B j < 128 := fun j h1 h2 => (T.2.2 j (by omega)).2
  have key : ∀ k n, k < 6 → f_X7_wordRead_L2 E M (n + 1) (ad 54) (nI k) = if rdB B s (rn B t 97 122 s) k then some (nI k) else f_X7_wordRead_L2 E M n (ad 54) (nI (k + 1)) := by
    intro k n hk
    show b_X7_wordRead_L2 E M (f_X7_wordRead_L2 E M n) (ad 54) (nI k) = _
    unfold b_X7_wordRead_L2
    have hsn : snm (nI k) = k := by
      have : ∀ k, k < 6 → snm (nI k) = k := by decide
      exact this k hk
    rw [if_neg (show ¬ (5 : Int32) < nI k from nI_nlt (a := 5) (b := k) (by omega) (by decide)), hsn, reads8 hN T hk hse he h2 h3, Option.bind_some, nI_1]
    cases rdB B s (rn B t 97 122 s) k
    · rw [if_neg ft1, if_pos rfl, if_neg ft1]
    · rw [if_pos rfl, if_neg I10, if_pos rfl]
  unfold f_X7_wordRead
  show f_X7_wordRead_L2 E M (999 + 1) (ad 54) (nI 0) = _
  rw [key 0 999 (by decide), key (0 + 1) 998 (by decide), key (0 + 1 + 1) 997 (by decide), key (0 + 1 + 1 + 1) 996 (by decide), key (0 + 1 + 1 + 1 + 1) 995 (by decide), key (0 + 1 + 1 + 1 + 1 + 1) 994 (by decide)]
  show (if rdB B s (rn B t 97 122 s) 0 = true then some (0 : Int32) else if rdB B s (rn B t 97 122 s) 1 = true then some 1 else if rdB B s (rn B t 97 122 s) 2 = true then some 2 else if rdB B s (rn B t 97 122 s) 3 = true then some 3 else if rdB B s (rn B t 97 122 s) 4 = true then some 4 else if rdB B s (rn B t 97 122 s) 5 = true then some 5 else b_X7_wordRead_L2 E M (f_X7_wordRead_L2 E M 993) (ad 54) (nI 6)) = _
  unfold b_X7_wordRead_L2
  rw [if_pos (show (5 : Int32) < nI 6 by decide)]
  simp only [rdB_0 hb hse, rdB_1 hb hse, rdB_2 hb hse, rdB_3 hb hse, rdB_4 hb hse, rdB_5 hb hse]
  unfold wdI
  generalize rn B t 97 122 s - s = len
  by_cases l2 : len = 2
  · subst l2; simp; split <;> rfl
  · by_cases l3 : len = 3
    · subst l3; simp; split <;> rfl
    · by_cases l5 : len = 5
      · subst l5; simp; split <;> first | rfl | (split <;> rfl)
      · by_cases l6 : len = 6
        · subst l6; simp; split <;> rfl
        · by_cases l7 : len = 7
          · subst l7; simp; split <;> rfl
          · simp [l2, l3, l5, l6, l7]
end Al58
