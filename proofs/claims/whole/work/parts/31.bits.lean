/-! loops, bits, ranges of cells -/
section Bits31
theorem loop_to {α γ : Type} (F : Nat → α → Int32 → γ) (acc : Nat → α) (j0 N : Nat) (hs : ∀ n j, j0 ≤ j → j < N → F (n + 1) (acc j) (nI j) = F n (acc (j + 1)) (nI (j + 1))) : ∀ d n, j0 + d ≤ N → F (n + d) (acc j0) (nI j0) = F n (acc (j0 + d)) (nI (j0 + d)) := by
  intro d
  induction d with
  | zero => intro n _; rfl
  | succ d ih =>
    intro n h
    have e := ih (n + 1) (by omega)
    rw [show n + (d + 1) = n + 1 + d by omega, e, hs n (j0 + d) (by omega) (by omega)]
    rfl
/-- a loop from 0 to N, N at most 999 -/
theorem loop_FU {α γ : Type} (F : Nat → α → Int32 → γ) (acc : Nat → α) (N : Nat) (hN : N ≤ 999) (hs : ∀ n j, j < N → F (n + 1) (acc j) (nI j) = F n (acc (j + 1)) (nI (j + 1))) : ∃ n, F FU (acc 0) 0 = F (n + 1) (acc N) (nI N) := by
  refine ⟨999 - N, ?_⟩
  have h := loop_to F acc 0 N (fun n j _ hj => hs n j hj) N (999 - N + 1) (by omega)
  rw [show 999 - N + 1 + N = FU by unfold FU; omega, Nat.zero_add, nI_0] at h
  exact h
/-- the same from j0 -/
theorem loop_FUj {α γ : Type} (F : Nat → α → Int32 → γ) (acc : Nat → α) (j0 N : Nat) (h0 : j0 ≤ N) (hN : N ≤ 999) (hs : ∀ n j, j0 ≤ j → j < N → F (n + 1) (acc j) (nI j) = F n (acc (j + 1)) (nI (j + 1))) : ∃ n, F FU (acc j0) (nI j0) = F (n + 1) (acc N) (nI N) := by
  refine ⟨999 - (N - j0), ?_⟩
  have h := loop_to F acc j0 N hs (N - j0) (999 - (N - j0) + 1) (by omega)
  rw [show 999 - (N - j0) + 1 + (N - j0) = FU by unfold FU; omega, show j0 + (N - j0) = N by omega] at h
  exact h
/-- a loop that may end early: what it gives is Q, whatever way -/
theorem loop_Q {α γ : Type} (F : Nat → α → Int32 → γ) (P : Nat → α → Prop) (Q : γ → Prop) (N : Nat) (hs : ∀ n j s, j < N → P j s → (∃ s', F (n + 1) s (nI j) = F n s' (nI (j + 1)) ∧ P (j + 1) s') ∨ Q (F (n + 1) s (nI j))) (he : ∀ n s, P N s → Q (F (n + 1) s (nI N))) : ∀ n j s, j ≤ N → N - j < n → P j s → Q (F n s (nI j)) := by
  intro n
  induction n with
  | zero => intro j s _ h; omega
  | succ n ih =>
    intro j s hj hn hP
    by_cases h : j = N
    · subst h; exact he n s hP
    · rcases hs n j s (by omega) hP with ⟨s', e, hP'⟩ | q
      · rw [e]; exact ih (j + 1) s' (by omega) (by omega) hP'
      · exact q
theorem loop_QFU {α γ : Type} (F : Nat → α → Int32 → γ) (P : Nat → α → Prop) (Q : γ → Prop) (N : Nat) (hN : N ≤ 999) (s0 : α) (h0 : P 0 s0) (hs : ∀ n j s, j < N → P j s → (∃ s', F (n + 1) s (nI j) = F n s' (nI (j + 1)) ∧ P (j + 1) s') ∨ Q (F (n + 1) s (nI j))) (he : ∀ n s, P N s → Q (F (n + 1) s (nI N))) : Q (F FU s0 0) := loop_Q F P Q N hs he FU 0 s0 (by omega) (by unfold FU; omega) h0
/-- k cells from lo on -/
def upR (M : Mem) (a lo n : Nat) (v : Nat → Int32) : Mem := (fun q j => if q = a ∧ lo ≤ j ∧ j < lo + n then v (j - lo) else M.1 q j, M.2)
theorem mi_upR (M : Mem) (a lo n : Nat) (v : Nat → Int32) (q j : Nat) : mi (upR M a lo n v) q j = if q = a ∧ lo ≤ j ∧ j < lo + n then v (j - lo) else mi M q j := rfl
theorem ml_upR (M : Mem) (a lo n : Nat) (v : Nat → Int32) (q j : Nat) : ml (upR M a lo n v) q j = ml M q j := rfl
theorem mr_upR (M : Mem) (a lo n : Nat) (v : Nat → Int32) (q j : Nat) : mr (upR M a lo n v) q j = mr M q j := rfl
theorem mem_ext {M N : Mem} (h1 : ∀ q j, mi M q j = mi N q j) (h2 : ∀ q j, ml M q j = ml N q j) (h3 : ∀ q j, mr M q j = mr N q j) : M = N := by
  obtain ⟨a, b, c⟩ := M
  obtain ⟨a', b', c'⟩ := N
  have e1 : a = a' := funext fun q => funext fun j => h1 q j
  have e2 : b = b' := funext fun q => funext fun j => h2 q j
  have e3 : c = c' := funext fun q => funext fun j => h3 q j
  rw [e1, e2, e3]
theorem upR_0 (M : Mem) (a lo : Nat) (v : Nat → Int32) : upR M a lo 0 v = M := by
  refine mem_ext (fun q j => ?_) (fun _ _ => rfl) (fun _ _ => rfl)
  rw [mi_upR, if_neg (by omega)]
theorem upR_s (M : Mem) (a lo n : Nat) (v : Nat → Int32) (k : Nat) (hk : k = lo + n) (w : Int32) (hw : w = v n) : wi (upR M a lo n v) a k w = upR M a lo (n + 1) v := by
  subst hk
  subst hw
  refine mem_ext (fun q j => ?_) (fun _ _ => rfl) (fun _ _ => rfl)
  rw [mi_wi, mi_upR, mi_upR]
  by_cases h : q = a ∧ j = lo + n
  · rw [if_pos h, if_pos ⟨h.1, by omega, by omega⟩]
    rw [show j - lo = n by omega]
  · rw [if_neg h]
    by_cases h2 : q = a ∧ lo ≤ j ∧ j < lo + n
    · rw [if_pos h2, if_pos ⟨h2.1, by omega, by omega⟩]
    · rw [if_neg h2, if_neg (fun z => h2 ⟨z.1, z.2.1, by
        have := z.2.2
        by_cases e : j = lo + n
        · exact absurd ⟨z.1, e⟩ h
        · omega⟩)]
/-- of two rows that are written by turns -/
theorem wi_comm (M : Mem) (a k b l : Nat) (v w : Int32) (h : ¬ (a = b ∧ k = l)) : wi (wi M a k v) b l w = wi (wi M b l w) a k v := by
  refine mem_ext (fun q j => ?_) (fun _ _ => rfl) (fun _ _ => rfl)
  simp only [mi_wi]
  by_cases h1 : q = b ∧ j = l
  · rw [if_pos h1, if_neg (fun z => h ⟨z.1.symm.trans h1.1, z.2.symm.trans h1.2⟩), if_pos h1]
  · rw [if_neg h1, if_neg h1]
theorem upR_wi (M : Mem) (a lo n : Nat) (f : Nat → Int32) (b l : Nat) (w : Int32) (h : ¬ (a = b ∧ lo ≤ l ∧ l < lo + n)) : wi (upR M a lo n f) b l w = upR (wi M b l w) a lo n f := by
  refine mem_ext (fun q j => ?_) (fun _ _ => rfl) (fun _ _ => rfl)
  simp only [mi_wi, mi_upR]
  by_cases h1 : q = b ∧ j = l
  · rw [if_pos h1, if_neg (fun z => h ⟨z.1.symm.trans h1.1, by rw [← h1.2]; exact z.2⟩), if_pos h1]
  · rw [if_neg h1, if_neg h1]
/-- two rows written by turns -/
theorem upR_s2 (M : Mem) (a lo b lo' n : Nat) (f g : Nat → Int32) (h : ∀ i j, i ≤ n → j ≤ n → ¬ (a = b ∧ lo + i = lo' + j)) (k l : Nat) (hk : k = lo + n) (hl : l = lo' + n) (w w' : Int32) (hw : w = f n) (hw' : w' = g n) : wi (wi (upR (upR M a lo n f) b lo' n g) a k w) b l w' = upR (upR M a lo (n + 1) f) b lo' (n + 1) g := by
  subst hk
  subst hl
  rw [upR_wi _ b lo' n g a (lo + n) w (fun z => h n (lo + n - lo') (by omega) (by omega) ⟨z.1.symm, by omega⟩), upR_s M a lo n f _ rfl w hw, upR_s _ b lo' n g _ rfl w' hw']
/-! bits -/
theorem nI_and (a b : Nat) : nI a &&& nI b = nI (a &&& b) := by
  apply Int32.toBitVec_inj.mp
  show BitVec.ofNat 32 a &&& BitVec.ofNat 32 b = BitVec.ofNat 32 (a &&& b)
  exact (BitVec.ofNat_and).symm
theorem nI_or (a b : Nat) : nI a ||| nI b = nI (a ||| b) := by
  apply Int32.toBitVec_inj.mp
  show BitVec.ofNat 32 a ||| BitVec.ofNat 32 b = BitVec.ofNat 32 (a ||| b)
  exact (BitVec.ofNat_or).symm
theorem nI_xor (a b : Nat) : nI a ^^^ nI b = nI (a ^^^ b) := by
  apply Int32.toBitVec_inj.mp
  show BitVec.ofNat 32 a ^^^ BitVec.ofNat 32 b = BitVec.ofNat 32 (a ^^^ b)
  exact (BitVec.ofNat_xor).symm
theorem sm31 : ∀ s, s < 32 → ((nI s &&& 31).toBitVec.smod 32).toNat = s := by decide +kernel
theorem shl1 {s : Nat} (h : s < 31) : (1 : Int32) <<< (nI s &&& 31) = nI (2 ^ s) := by
  have e := pk_shlN (n := 1) (nI s &&& 31) s (sm31 s (by omega)) (by
    have := Nat.pow_lt_pow_right (a := 2) (by decide) (show s < 32 by omega)
    omega)
  rw [Nat.one_mul] at e
  exact e
theorem shrN {k s : Nat} (hk : k < 2 ^ 31) (h : s < 32) : nI k >>> (nI s &&& 31) = nI (k / 2 ^ s) := pk_shrN hk (nI s &&& 31) s (sm31 s h)
theorem and1 (k : Nat) : nI k &&& (1 : Int32) = nI (k % 2) := by
  have e := nI_and k 1
  rw [Nat.and_one_is_mod] at e
  exact e
theorem shrb {k s : Nat} (hk : k < 2 ^ 31) (h : s < 32) : (nI k >>> (nI s &&& 31)) &&& (1 : Int32) = if k.testBit s then 1 else 0 := by
  rw [shrN hk h, and1, Nat.testBit_eq_decide_div_mod_eq]
  by_cases e : k / 2 ^ s % 2 = 1
  · rw [e, if_pos (by decide)]; rfl
  · rw [show k / 2 ^ s % 2 = 0 by omega]; rfl
/-- a bit as the machine asks for it -/
theorem bitN {k s : Nat} (hk : k < 2 ^ 31) (h : s < 32) : ((nI k >>> (nI s &&& 31)) &&& (1 : Int32) = 1) = (k.testBit s = true) := by
  rw [shrb hk h]
  cases k.testBit s <;> simp
/-- a without b -/
def wo (a b : Nat) : Nat := a ^^^ (a &&& b)
theorem tb_wo (a b i : Nat) : (wo a b).testBit i = (a.testBit i && !b.testBit i) := by
  unfold wo
  rw [Nat.testBit_xor, Nat.testBit_and]
  cases a.testBit i <;> cases b.testBit i <;> rfl
theorem wo_lt {a b n : Nat} (h : a < 2 ^ n) : wo a b < 2 ^ n := by
  apply Nat.lt_pow_two_of_testBit
  intro i hi
  rw [tb_wo, Nat.testBit_lt_two_pow (Nat.lt_of_lt_of_le h (Nat.pow_le_pow_right (by decide) hi))]
  rfl
theorem nI_wo (a b : Nat) : nI a &&& (nI b ^^^ (-1 : Int32)) = nI (wo a b) := by
  apply Int32.toBitVec_inj.mp
  show BitVec.ofNat 32 a &&& (BitVec.ofNat 32 b ^^^ BitVec.ofInt 32 (-1)) = BitVec.ofNat 32 (wo a b)
  apply BitVec.eq_of_getLsbD_eq
  intro i hi
  have e : (BitVec.ofInt 32 (-1)).getLsbD i = true := by
    rw [show BitVec.ofInt 32 (-1) = BitVec.allOnes 32 by decide, BitVec.getLsbD_allOnes]
    exact decide_eq_true hi
  rw [BitVec.getLsbD_and, BitVec.getLsbD_xor, e, BitVec.getLsbD_ofNat, BitVec.getLsbD_ofNat, BitVec.getLsbD_ofNat, tb_wo, decide_eq_true hi]
  cases a.testBit i <;> cases b.testBit i <;> rfl
/-- the set of the k below n of which c says so -/
def setOf : Nat → (Nat → Bool) → Nat
  | 0, _ => 0
  | n + 1, c => setOf n c ||| (if c n then 2 ^ n else 0)
theorem tb_set (n : Nat) (c : Nat → Bool) (b : Nat) : (setOf n c).testBit b = (decide (b < n) && c b) := by
  induction n with
  | zero => simp [setOf]
  | succ n ih =>
    show (setOf n c ||| (if c n then 2 ^ n else 0)).testBit b = _
    rw [Nat.testBit_or, ih]
    by_cases h : b = n
    · subst h
      cases hc : c b <;> simp
    · have h2 : ((if c n then 2 ^ n else 0 : Nat)).testBit b = false := by
        split
        · rw [Nat.testBit_two_pow]; exact decide_eq_false (fun z => h z.symm)
        · simp
      rw [h2, Bool.or_false]
      by_cases h3 : b < n
      · rw [decide_eq_true h3, decide_eq_true (show b < n + 1 by omega)]
      · rw [decide_eq_false h3, decide_eq_false (show ¬ b < n + 1 by omega)]
theorem set_lt (n : Nat) (c : Nat → Bool) : setOf n c < 2 ^ n := by
  apply Nat.lt_pow_two_of_testBit
  intro i hi
  rw [tb_set, decide_eq_false (by omega)]
  rfl
theorem eq_tb {a b : Nat} (h : ∀ i, a.testBit i = b.testBit i) : a = b := Nat.eq_of_testBit_eq h
theorem set_ext {n k : Nat} {c d : Nat → Bool} (h : ∀ i, (decide (i < n) && c i) = (decide (i < k) && d i)) : setOf n c = setOf k d := eq_tb fun i => by rw [tb_set, tb_set, h]
/-- a sum -/
def sumO : Nat → (Nat → Nat) → Nat
  | 0, _ => 0
  | n + 1, f => sumO n f + f n
theorem sum_ext {f g : Nat → Nat} : ∀ n, (∀ i, i < n → f i = g i) → sumO n f = sumO n g := by
  intro n
  induction n with
  | zero => intro _; rfl
  | succ n ih =>
    intro h
    show sumO n f + f n = sumO n g + g n
    rw [ih (fun i hi => h i (by omega)), h n (by omega)]
theorem sum_more {f g : Nat → Nat} {p n : Nat} (hp : p ≤ n) (h : ∀ i, i < p → f i = g i) (h0 : ∀ i, p ≤ i → i < n → f i = 0) : sumO n f = sumO p g := by
  obtain ⟨d, rfl⟩ := Nat.exists_eq_add_of_le hp
  clear hp
  induction d with
  | zero => exact sum_ext p h
  | succ d ih =>
    show sumO (p + d) f + f (p + d) = sumO p g
    rw [ih (fun i h1 h2 => h0 i h1 (by omega)), h0 (p + d) (by omega) (by omega)]
    rfl
theorem sum_le {f : Nat → Nat} {b : Nat} : ∀ n, (∀ i, i < n → f i ≤ b) → sumO n f ≤ n * b := by
  intro n
  induction n with
  | zero => intro _; exact Nat.zero_le _
  | succ n ih =>
    intro h
    have h1 := ih (fun i hi => h i (by omega))
    have h2 := h n (by omega)
    rw [Nat.succ_mul]
    show sumO n f + f n ≤ _
    omega
theorem or_lt {a b n : Nat} (ha : a < 2 ^ n) (hb : b < 2 ^ n) : a ||| b < 2 ^ n := Nat.or_lt_two_pow ha hb
theorem and_lt {a b n : Nat} (ha : a < 2 ^ n) : a &&& b < 2 ^ n := by rw [Nat.and_comm]; exact Nat.and_lt_two_pow b ha
/-- how many of the first eight bits -/
def popc (v : Nat) : Nat := sumO 8 (fun k => if v.testBit k then 1 else 0)
end Bits31
