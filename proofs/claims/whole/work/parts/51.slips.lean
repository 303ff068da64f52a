/-! words that slip -/
section Al51
variable {E : Env1} {x m : Nat} {ad : Nat → Nat} {M : Mem} {h : Ho} {pi : Nat → Nat}
def oddN (O T d : Nat) : Nat → Nat
  | 0 => 1
  | n + 1 => oddN O T d n * (if O.testBit n then (if T.testBit n then 10 - d else d) else 1)
def tenN (O : Nat) : Nat → Nat
  | 0 => 1
  | n + 1 => tenN O n * (if O.testBit n then 10 else 1)
theorem ten_all : ∀ O, O < 64 → ∀ d, d < 11 → sumO 64 (fun T => if T &&& O = T then oddN O T d 6 else 0) = tenN O 6 := by decide +kernel
theorem ten_le (O : Nat) : ∀ n, tenN O n ≤ 10 ^ n ∧ 0 < tenN O n := by
  intro n
  induction n with
  | zero => exact ⟨Nat.le_refl _, Nat.lt_succ_self 0⟩
  | succ n ih =>
    show tenN O n * (if O.testBit n then 10 else 1) ≤ 10 ^ (n + 1) ∧ 0 < tenN O n * (if O.testBit n then 10 else 1)
    rw [Nat.pow_succ]
    split <;> omega
theorem sum_mono {f g : Nat → Nat} (hfg : ∀ i, f i ≤ g i) : ∀ n, sumO n f ≤ sumO n g := by
  intro n
  induction n with
  | zero => exact Nat.le_refl _
  | succ n ih =>
    show sumO n f + f n ≤ sumO n g + g n
    have := hfg n
    omega
theorem sub_wo (T O : Nat) : (wo T O = 0) = (T &&& O = T) := propext ⟨fun h => eq_tb fun i => by
    have := congrArg (fun z => z.testBit i) h
    simp only [tb_wo, Nat.zero_testBit] at this
    rw [Nat.testBit_and]
    cases h1 : T.testBit i <;> cases h2 : O.testBit i <;> simp_all, fun h => eq_tb fun i => by
    have := congrArg (fun z => z.testBit i) h
    simp only [Nat.testBit_and] at this
    rw [tb_wo, Nat.zero_testBit]
    cases h1 : T.testBit i <;> cases h2 : O.testBit i <;> simp_all⟩
theorem sub_le {T O : Nat} (h : T &&& O = T) : T ≤ O := by rw [← h]; exact Nat.and_le_right
/-- the meeting weight of one lot -/
def metN (h : Ho) (i k d O T : Nat) : Nat := if T &&& O = T then (if meetB h i k T (sT (oS h)) then oddN O T d 6 else 0) else 0
theorem met_le (h : Ho) (i k d O T : Nat) : metN h i k d O T ≤ (if T &&& O = T then oddN O T d 6 else 0) := by
  unfold metN
  split
  · split <;> omega
  · exact Nat.le_refl _
/-! division -/
def reach : Nat → Nat → Nat → Prop
  | 0, _, b => b = 0
  | n + 1, a, b => b = 0 ∨ reach n b (a % b)
theorem reach_all : ∀ n a b, b < 2 ^ n → reach (2 * n) a b := by
  intro n
  induction n with
  | zero => intro a b h; show b = 0; have : b < 1 := h; omega
  | succ n ih =>
    intro a b h
    show b = 0 ∨ reach (2 * n + 1) b (a % b)
    by_cases hb : b = 0
    · exact Or.inl hb
    · refine Or.inr ?_
      show a % b = 0 ∨ reach (2 * n) (a % b) (b % (a % b))
      by_cases hr : a % b = 0
      · exact Or.inl hr
      · refine Or.inr (ih _ _ ?_)
        have h1 : a % b < b := Nat.mod_lt _ (by omega)
        have h2 : b % (a % b) < a % b := Nat.mod_lt _ (by omega)
        have h3 : b % (a % b) + (a % b) * (b / (a % b)) = b := Nat.mod_add_div _ _
        have h4 : 0 < b / (a % b) := Nat.div_pos (by omega) (by omega)
        have h5 : (a % b) * 1 ≤ (a % b) * (b / (a % b)) := Nat.mul_le_mul_left _ h4
        have h6 : b < 2 ^ n * 2 := by rw [← Nat.pow_succ]; exact h
        omega
theorem lN_0 : lN 0 = (0 : Int64) := by decide
theorem lz {b : Nat} (hb : b < 2 ^ 31) : (lg_cmp (lN b) (0 : Int64) = 0) = (b = 0) := propext ((lg_cmp_eq _ _).trans (lN_eq (b := 0) hb (by decide)))
theorem gzn {α : Type} {b : Nat} {y : Option α} (h0 : 0 < b) (hb : b < 2 ^ 31) : gzl (lN b) y = y := by
  unfold gzl
  rw [if_neg (fun z => by have := (lN_eq (b := 0) hb (by decide)).mp z; omega)]
theorem gcd_step (a b : Nat) : Nat.gcd a b = Nat.gcd b (a % b) := by rw [Nat.gcd_comm a b, Nat.gcd_rec b a, Nat.gcd_comm]
theorem gd8 (E : Env1) (M : Mem) : ∀ n a b c f, reach n a b → c + n < 100 → n < f → a < 2 ^ 31 → b < 2 ^ 31 → f_X8_greatestDivisor_L3 E M f (lN a) (lN b) (nI c) = some (lN (Nat.gcd a b)) := by
  intro n
  induction n with
  | zero =>
    intro a b c f hr hc hf ha hb
    obtain ⟨f, rfl⟩ : ∃ f', f = f' + 1 := ⟨f - 1, by omega⟩
    show b_X8_greatestDivisor_L3 E M (f_X8_greatestDivisor_L3 E M f) (lN a) (lN b) (nI c) = _
    unfold b_X8_greatestDivisor_L3
    have hb0 : b = 0 := hr
    simp only [if_neg (show ¬ (100 : Int32) ≤ nI c from nI_ge (a := c) (b := 100) (by omega) (by decide)), lz hb]
    rw [if_pos hb0, hb0, Nat.gcd_zero_right]
  | succ n ih =>
    intro a b c f hr hc hf ha hb
    obtain ⟨f, rfl⟩ : ∃ f', f = f' + 1 := ⟨f - 1, by omega⟩
    show b_X8_greatestDivisor_L3 E M (f_X8_greatestDivisor_L3 E M f) (lN a) (lN b) (nI c) = _
    unfold b_X8_greatestDivisor_L3
    simp only [if_neg (show ¬ (100 : Int32) ≤ nI c from nI_ge (a := c) (b := 100) (by omega) (by decide)), lz hb]
    by_cases hb0 : b = 0
    · rw [if_pos hb0, hb0, Nat.gcd_zero_right]
    · rw [if_neg hb0, gzn (by omega) hb, pk_lRem (by omega) (by omega) (by omega), nI_1, gcd_step a b]
      have hm : a % b < b := Nat.mod_lt _ (by omega)
      exact ih b (a % b) (c + 1) f (hr.resolve_left hb0) (by omega) (by omega) hb (by omega)
theorem lay9 (E : Env1) (M : Mem) (z a0 b0 : Nat) : ∀ n a b f, reach n a b → n < f → a < 2 ^ 31 → b < 2 ^ 31 → 0 < Nat.gcd a b → f_X9_lay_L6 E f M z (lN a0) (lN b0) (lN a) (lN b) = some (wl (wl M z 25 (lN a0 / lN (Nat.gcd a b))) z 26 (lN b0 / lN (Nat.gcd a b))) := by
  intro n
  induction n with
  | zero =>
    intro a b f hr hf ha hb hg
    obtain ⟨f, rfl⟩ : ∃ f', f = f' + 1 := ⟨f - 1, by omega⟩
    show b_X9_lay_L6 E (f_X9_lay_L6 E f) M z (lN a0) (lN b0) (lN a) (lN b) = _
    unfold b_X9_lay_L6
    have hb0 : b = 0 := hr
    simp only [lz hb]
    rw [if_pos hb0]
    rw [hb0, Nat.gcd_zero_right] at hg ⊢
    rw [gzn hg ha, gzn hg ha]
  | succ n ih =>
    intro a b f hr hf ha hb hg
    obtain ⟨f, rfl⟩ : ∃ f', f = f' + 1 := ⟨f - 1, by omega⟩
    show b_X9_lay_L6 E (f_X9_lay_L6 E f) M z (lN a0) (lN b0) (lN a) (lN b) = _
    unfold b_X9_lay_L6
    simp only [lz hb]
    by_cases hb0 : b = 0
    · rw [if_pos hb0]
      rw [hb0, Nat.gcd_zero_right] at hg ⊢
      rw [gzn hg ha, gzn hg ha]
    · rw [if_neg hb0, gzn (by omega) hb, pk_lRem (by omega) (by omega) (by omega)]
      rw [gcd_step a b] at hg ⊢
      have hm : a % b < b := Nat.mod_lt _ (by omega)
      exact ih b (a % b) f (hr.resolve_left hb0) (by omega) hb (by omega) hg
theorem odds8 (E : Env1) (M : Mem) {O T d : Nat} (hO : O < 64) (hT : T < 64) (hd : d ≤ 10) : f_X8_oddsOf E M (nI O) (nI T) (nI d) = some (lN (oddN O T d 6)) := by
  unfold f_X8_oddsOf
  obtain ⟨n, e⟩ := loop_FU (fun q (s : Int64) w => f_X8_oddsOf_L5 E M q (nI O) (nI T) (nI d) s w) (fun j => lN (oddN O T d j)) 6 (by decide) (by
    intro n j hj
    show b_X8_oddsOf_L5 E M (f_X8_oddsOf_L5 E M n) (nI O) (nI T) (nI d) (lN (oddN O T d j)) (nI j) = f_X8_oddsOf_L5 E M n (nI O) (nI T) (nI d) (lN (oddN O T d j * (if O.testBit j then (if T.testBit j then 10 - d else d) else 1))) (nI (j + 1))
    unfold b_X8_oddsOf_L5
    rw [if_neg (lt6 hj), show (10 : Int32) = nI 10 from rfl, pk_sub hd, nI_l (by omega), nI_l (by omega), nI_1, nm_v]
    simp only [bitN (show O < 2 ^ 31 by omega) (show j < 32 by omega), bitN (show T < 2 ^ 31 by omega) (show j < 32 by omega)]
    cases O.testBit j
    · rw [if_neg ft_, if_neg ft_, Nat.mul_one]
    · rw [if_pos rfl, if_pos rfl]
      cases T.testBit j
      · rw [if_neg ft_, if_neg ft_, lN_mul]
      · rw [if_pos rfl, if_pos rfl, lN_mul])
  refine e.trans ?_
  show b_X8_oddsOf_L5 E M (f_X8_oddsOf_L5 E M n) (nI O) (nI T) (nI d) _ (nI 6) = _
  unfold b_X8_oddsOf_L5
  rw [if_pos (by decide)]
theorem slips8 (hN : Nm E (ad 50) (ad 0) ad) (hc : CO ad M 100 h) (ho : okP h) (hTm : sT (oS h) < 2 ^ 31) {i k d O : Nat} (hi : i < oP h) (hk : k < 8) (hd : d ≤ 10) (hO : O < 64) : f_X8_slips_L55 E FU M (ad 50) (nI i) (nI k) (nI d) (nI O) 0 0 0 = (f_X8_keepFraction E M (ad 50) (lN (sumO 64 (metN h i k d O))) (lN (tenN O 6))).bind fun x2 => some ((1 : Int32), x2) := by
  have hH := hn_of hN (H := 100) (Or.inl rfl)
  have hS := sn_of hN (H := 100) (Or.inl rfl)
  obtain ⟨n, e⟩ := loop_FU (fun q (s : Int64 × Int64) w => f_X8_slips_L55 E q M (ad 50) (nI i) (nI k) (nI d) (nI O) s.1 s.2 w) (fun T => (lN (sumO T (metN h i k d O)), lN (sumO T (fun T => if T &&& O = T then oddN O T d 6 else 0)))) 64 (by decide) (by
    intro n T hT
    show b_X8_slips_L55 E (f_X8_slips_L55 E n) M (ad 50) (nI i) (nI k) (nI d) (nI O) (lN (sumO T (metN h i k d O))) (lN (sumO T (fun T => if T &&& O = T then oddN O T d 6 else 0))) (nI T) = f_X8_slips_L55 E n M (ad 50) (nI i) (nI k) (nI d) (nI O) (lN (sumO T (metN h i k d O) + metN h i k d O T)) (lN (sumO T (fun T => if T &&& O = T then oddN O T d 6 else 0) + (if T &&& O = T then oddN O T d 6 else 0))) (nI (T + 1))
    unfold b_X8_slips_L55
    have hle : T &&& O ≤ T := Nat.and_le_left
    rw [if_neg (show ¬ (64 : Int32) ≤ nI T from nI_ge (a := T) (b := 64) hT (by decide)), nI_and, n_100 hN, hH.2.2.1, hc.2.2.2.2.2.2.2, odds8 E M hO hT hd, Option.bind_some, meet_eq hH hS ho hi hk (show T < 2 ^ 31 by omega) hTm hc, Option.bind_some, nm_v, nI_1]
    simp only [nIe (show T &&& O < 2 ^ 31 by omega) (show T < 2 ^ 31 by omega)]
    unfold metN
    by_cases g : T &&& O = T
    · rw [if_pos g, if_pos g, if_pos g, lN_add]
      cases meetB h i k T (sT (oS h))
      · rw [if_neg ft_, if_neg ft_, if_pos rfl]
        exact congrArg (fun z => f_X8_slips_L55 E n M (ad 50) (nI i) (nI k) (nI d) (nI O) z _ (nI (T + 1))) (lN_add _ 0)
      · rw [if_pos rfl, if_pos rfl, if_neg I10, lN_add]
    · rw [if_neg g, if_neg g, if_neg g]; rfl)
  refine e.trans ?_
  show b_X8_slips_L55 E (f_X8_slips_L55 E n) M (ad 50) (nI i) (nI k) (nI d) (nI O) (lN (sumO 64 (metN h i k d O))) (lN (sumO 64 (fun T => if T &&& O = T then oddN O T d 6 else 0))) (nI 64) = _
  unfold b_X8_slips_L55
  rw [if_pos (by decide), ten_all O hO d (by omega)]
theorem slips9 (hN : Nm E (ad 50) (ad 0) ad) (r : RO ad M h) (ho : okP h) {i k d O : Nat} (hi : i < oP h) (hk : k < 8) (hd : d ≤ 10) (hO : O < 64) (hO2 : ∀ j, oP h ≤ j → O.testBit j = false) : f_X9_slips_L58 E FU M (ad 0) (nI i) (nI k) (nI d) (nI (sT (oS h) % 24)) (nI O) 0 1 0 = (f_X9_lay E M (ad 0) (lN (sumO 64 (metN h i k d O))) (lN (tenN O 6))).bind fun x2 => some ((1 : Int32), x2) := by
  have hp : oP h ≤ 6 := ho.1
  have tail : ∀ g : Nat → Nat → Nat, (∀ n, oP h ≤ n → g (n + 1) (g n 0) = g n 0) → True := fun _ _ => trivial
  have ten_p : ∀ t, tenN O (oP h + t) = tenN O (oP h) := by
    intro t
    induction t with
    | zero => rfl
    | succ t ih =>
      show tenN O (oP h + t) * (if O.testBit (oP h + t) then 10 else 1) = _
      rw [ih, hO2 _ (by omega), if_neg ft_, Nat.mul_one]
  have odd_p : ∀ T t, oddN O T d (oP h + t) = oddN O T d (oP h) := by
    intro T t
    induction t with
    | zero => rfl
    | succ t ih =>
      show oddN O T d (oP h + t) * (if O.testBit (oP h + t) then (if T.testBit (oP h + t) then 10 - d else d) else 1) = _
      rw [ih, hO2 _ (by omega), if_neg ft_, Nat.mul_one]
  have ten6 : tenN O 6 = tenN O (oP h) := by have := ten_p (6 - oP h); rwa [show oP h + (6 - oP h) = 6 by omega] at this
  have odd6 : ∀ T, oddN O T d 6 = oddN O T d (oP h) := fun T => by have := odd_p T (6 - oP h); rwa [show oP h + (6 - oP h) = 6 by omega] at this
  obtain ⟨n, e⟩ := loop_FU (fun q (s : Int64) w => f_X9_slips_L58 E q M (ad 0) (nI i) (nI k) (nI d) (nI (sT (oS h) % 24)) (nI O) 0 s w) (fun j => lN (tenN O j)) (oP h) (by omega) (by
    intro n j hj
    show b_X9_slips_L58 E (f_X9_slips_L58 E n) M (ad 0) (nI i) (nI k) (nI d) (nI (sT (oS h) % 24)) (nI O) 0 (lN (tenN O j)) (nI j) = f_X9_slips_L58 E n M (ad 0) (nI i) (nI k) (nI d) (nI (sT (oS h) % 24)) (nI O) 0 (lN (tenN O j * (if O.testBit j then 10 else 1))) (nI (j + 1))
    unfold b_X9_slips_L58
    rw [r.1, if_neg (le_n hj (by omega)), has_eq (by omega) (by omega), nm_v, nI_1]
    simp only [fl01]
    cases O.testBit j
    · rw [if_pos (show false = false from rfl), if_neg ft_]
      exact congrArg (fun z => f_X9_slips_L58 E n M (ad 0) (nI i) (nI k) (nI d) (nI (sT (oS h) % 24)) (nI O) 0 z (nI (j + 1))) (lN_mul _ 1)
    · rw [if_neg tf_, if_pos (show true = true from rfl)]
      exact congrArg (fun z => f_X9_slips_L58 E n M (ad 0) (nI i) (nI k) (nI d) (nI (sT (oS h) % 24)) (nI O) 0 z (nI (j + 1))) (lN_mul _ 10))
  refine e.trans ?_
  show b_X9_slips_L58 E (f_X9_slips_L58 E n) M (ad 0) (nI i) (nI k) (nI d) (nI (sT (oS h) % 24)) (nI O) 0 _ (nI (oP h)) = _
  unfold b_X9_slips_L58
  rw [r.1, if_pos (nI_le (Nat.le_refl _) (by omega)), ← ten6]
  obtain ⟨n', e'⟩ := loop_FU (fun q (s : Nat) w => f_X9_slips_L98 E q M (ad 0) (nI i) (nI k) (nI d) (nI (sT (oS h) % 24)) (nI O) (lN s) (lN (tenN O 6)) w) (fun T => sumO T (metN h i k d O)) (O + 1) (by omega) (by
    intro n T hT
    show b_X9_slips_L98 E (f_X9_slips_L98 E n) M (ad 0) (nI i) (nI k) (nI d) (nI (sT (oS h) % 24)) (nI O) (lN (sumO T (metN h i k d O))) (lN (tenN O 6)) (nI T) = f_X9_slips_L98 E n M (ad 0) (nI i) (nI k) (nI d) (nI (sT (oS h) % 24)) (nI O) (lN (sumO T (metN h i k d O) + metN h i k d O T)) (lN (tenN O 6)) (nI (T + 1))
    unfold b_X9_slips_L98
    have hwo : wo T O < 2 ^ 31 := wo_ltp (show T < 2 ^ 6 by omega) (by decide)
    rw [if_neg (nI_nlt (a := O) (b := T) (by omega) (by omega)), nI_wo, nI_1]
    simp only [nIe0 hwo, sub_wo]
    by_cases g : T &&& O = T
    · rw [if_pos g, show metN h i k d O T = (if meetB h i k T (sT (oS h)) then oddN O T d 6 else 0) from by unfold metN; rw [if_pos g]]
      obtain ⟨n2, e2⟩ := loop_FU (fun q (s : Nat × Nat) w => f_X9_slips_L124 E (f_X9_slips_L98 E n) q M (ad 0) (nI i) (nI k) (nI d) (nI (sT (oS h) % 24)) (nI O) (lN (sumO T (metN h i k d O))) (lN (tenN O 6)) (nI T) (nI s.1) (lN s.2) w) (fun j => (sumO j (fun j => if T.testBit j then worN (oK h j) (sP (oS h) j) (sT (oS h) % 24) else 0), oddN O T d j)) (oP h) (by omega) (by
        intro n2 j hj
        show b_X9_slips_L124 E (f_X9_slips_L98 E n) (f_X9_slips_L124 E (f_X9_slips_L98 E n) n2) M (ad 0) (nI i) (nI k) (nI d) (nI (sT (oS h) % 24)) (nI O) (lN (sumO T (metN h i k d O))) (lN (tenN O 6)) (nI T) (nI (sumO j (fun j => if T.testBit j then worN (oK h j) (sP (oS h) j) (sT (oS h) % 24) else 0))) (lN (oddN O T d j)) (nI j) = f_X9_slips_L124 E (f_X9_slips_L98 E n) n2 M (ad 0) (nI i) (nI k) (nI d) (nI (sT (oS h) % 24)) (nI O) (lN (sumO T (metN h i k d O))) (lN (tenN O 6)) (nI T) (nI (sumO j (fun j => if T.testBit j then worN (oK h j) (sP (oS h) j) (sT (oS h) % 24) else 0) + (if T.testBit j then worN (oK h j) (sP (oS h) j) (sT (oS h) % 24) else 0))) (lN (oddN O T d j * (if O.testBit j then (if T.testBit j then 10 - d else d) else 1))) (nI (j + 1))
        unfold b_X9_slips_L124 f_X9_slips_L157
        have pw : (if (if O.testBit j then (1 : Int32) else 0) = 0 then (1 : Int64) else if (if T.testBit j then (1 : Int32) else 0) = 0 then lN d else lN (10 - d)) = lN (if O.testBit j then (if T.testBit j then 10 - d else d) else 1) := by
          cases O.testBit j <;> cases T.testBit j <;> rfl
        rw [r.1, if_neg (le_n hj (by omega)), has_eq (show T < 2 ^ 31 by omega) (show j < 32 by omega), has_eq (show O < 2 ^ 31 by omega) (show j < 32 by omega), show (10 : Int32) = nI 10 from rfl, pk_sub hd, nI_l (by omega), nI_l (by omega), pw, worth9_eq hN ho hj r, Option.bind_some, nm_v, nm_v, lN_mul, nI_1, nI_add]
        simp only [fl01]
        cases T.testBit j
        · rw [if_pos (show false = false from rfl), if_neg ft_]
          exact congrArg (fun z => f_X9_slips_L124 E (f_X9_slips_L98 E n) n2 M (ad 0) (nI i) (nI k) (nI d) (nI (sT (oS h) % 24)) (nI O) (lN (sumO T (metN h i k d O))) (lN (tenN O 6)) (nI T) z _ (nI (j + 1))) (nI_add _ 0)
        · rw [if_neg tf_, if_pos (show true = true from rfl)]; rfl)
      refine e2.trans ?_
      show b_X9_slips_L124 E (f_X9_slips_L98 E n) (f_X9_slips_L124 E (f_X9_slips_L98 E n) n2) M (ad 0) (nI i) (nI k) (nI d) (nI (sT (oS h) % 24)) (nI O) (lN (sumO T (metN h i k d O))) (lN (tenN O 6)) (nI T) (nI (wordN h T (sT (oS h)))) (lN (oddN O T d (oP h))) (nI (oP h)) = _
      unfold b_X9_slips_L124
      rw [r.1, if_pos (nI_le (Nat.le_refl _) (by omega)), gd_nI (by omega) (by decide), ix_nI (by omega), n_10 hN, r.2.2.2.2.2.1 i hi, has_eq (by have := ho.2.2.2.2.2.2.1 i; omega) (by omega), wants9_eq hN ho hi hk r, Option.bind_some, lN_add, nI_1, ← odd6 T]
      simp only [fl01]
      unfold meetB
      cases (sN (oS h) i).testBit k
      · rw [if_pos (show false = false from rfl), Bool.false_or]
        have wl : wantN h i k (sT (oS h)) ≤ 17 := by have := wan_le (sS (oS h) k) (oW h i) (sT (oS h) % 24); have := ho.2.2.1 i hi; unfold wantN; omega
        have ww := word_le h T (sT (oS h)) hp
        by_cases g2 : wantN h i k (sT (oS h)) ≤ wordN h T (sT (oS h))
        · rw [if_neg (nI_nlt (a := wordN h T (sT (oS h))) (b := wantN h i k (sT (oS h))) g2 (by omega)), decide_eq_true g2, if_pos (show true = true from rfl)]
        · rw [if_pos (nI_lt (a := wordN h T (sT (oS h))) (b := wantN h i k (sT (oS h))) (by omega) (by omega)), decide_eq_false g2, if_neg ft_]
          exact congrArg (fun z => f_X9_slips_L98 E n M (ad 0) (nI i) (nI k) (nI d) (nI (sT (oS h) % 24)) (nI O) z (lN (tenN O 6)) (nI (T + 1))) (lN_add _ 0)
      · rw [if_neg tf_, Bool.true_or, if_pos (show true = true from rfl)]
    · rw [if_neg g, show metN h i k d O T = 0 from by unfold metN; rw [if_neg g]]; rfl)
  refine e'.trans ?_
  show b_X9_slips_L98 E (f_X9_slips_L98 E n') M (ad 0) (nI i) (nI k) (nI d) (nI (sT (oS h) % 24)) (nI O) _ _ (nI (O + 1)) = _
  unfold b_X9_slips_L98
  rw [if_pos (nI_lt (by omega) (by omega)), ← sum_more (f := metN h i k d O) (g := metN h i k d O) (p := O + 1) (n := 64) (by omega) (fun _ _ => rfl) (fun T h1 _ => by unfold metN; rw [if_neg (fun z => by have := sub_le z; omega)])]
end Al51
section Al51b
variable {E : Env1} {x m : Nat} {M : Mem}
theorem ok_slips (hI : Inv E x m M) : al_slips Inv E x m M := by
  intro a1 a2 a3
  obtain ⟨ad, h, pi, hN, ho, hc, hb, k1, k2, k3, k4, k5⟩ := id hI
  obtain ⟨rfl, rfl⟩ : m = ad 0 ∧ x = ad 50 := ⟨hN.1.symm, hN.2.1.symm⟩
  have r := RO_of ho.1.1 hb
  have hH := hn_of hN (H := 100) (Or.inl rfl)
  have hS := sn_of hN (H := 100) (Or.inl rfl)
  have hT : sT (oS h) < 2 ^ 31 := by have := ho.2.1; omega
  have hp : oP h ≤ 6 := ho.1.1
  have hI' := hN.2.2.1
  have hP : ∀ j, j < 8 → SN E ad (100 + 16 + 4 * j) := fun j hj => (sp_of hN (H := 100) (Or.inl rfl) hj).1
  by_cases g : inP (oP h) a1
  · by_cases gs : (0 : Int32) ≤ a2 ∧ a2 ≤ 7
    · by_cases g3 : (0 : Int32) ≤ a3 ∧ a3 ≤ 10
      · obtain ⟨i, hi, e1⟩ := inP_ex hp g
        have h6 : i < 6 := Nat.lt_of_lt_of_le hi hp
        obtain ⟨k, hk, e2⟩ := rg (n := 7) (by decide) gs
        have hk8 : k < 8 := by omega
        obtain ⟨d, hd, e3⟩ := rg (n := 10) (by decide) g3
        have hO : othersN h i k < 64 := by unfold othersN; exact wo_lt (set_lt 6 _)
        have hO2 : ∀ j, oP h ≤ j → (othersN h i k).testBit j = false := fun j hj => by
          rw [others_tb, (ho.1.2.2.2.2.2.2.2.2 j hj).1, Nat.zero_testBit, Bool.and_false, Bool.false_and]
        have q8 := slips8 (M := M) hN hc.1 ho.1 hT hi hk8 hd hO
        have q9 := fun M1 (u : Mu ad M M1) => slips9 hN (RO_mu u r) ho.1 hi hk8 hd hO hO2
        have o9 : ∀ M1, Mu ad M M1 → (f_X9_whoKnows E M1 (ad 0) a2) = some (nI (setOf (oP h) (fun i => (sN (oS h) i).testBit k))) := fun M1 u => by
          rw [e2]
          exact whoKnows_eq hN (by omega) hp ho.1.2.2.2.2.2.2.1 (RO_mu u r).1 (RO_mu u r).2.2.2
        have oo : wo (setOf (oP h) (fun i => (sN (oS h) i).testBit k)) (2 ^ i) = othersN h i k := by unfold othersN; rw [who_6 ho.1.2.2.2 hp]
        have ts := ten_le (othersN h i k) 6
        have ss := sum_mono (fun T => met_le h i k d (othersN h i k) T) 64
        rw [ten_all _ hO d (by omega)] at ss
        generalize sumO 64 (metN h i k d (othersN h i k)) = a at q8 q9 ss
        generalize tenN (othersN h i k) 6 = b at q8 q9 ss ts
        have hb6 : b ≤ 1000000 := ts.1
        have hg : 0 < Nat.gcd a b := Nat.gcd_pos_of_pos_right _ ts.2
        have hgb : Nat.gcd a b ≤ b := Nat.gcd_le_right _ ts.2
        have hre := reach_all 20 a b (by omega)
        have d50 : ¬ ad 50 = ad 0 := fun z => by have := hI' _ _ z; omega
        refine ⟨1, wl (wl M (ad 50) 6 (lN a / lN (Nat.gcd a b))) (ad 50) 7 (lN b / lN (Nat.gcd a b)), wl (wl (wl (wl M (ad 50) 6 (lN a / lN (Nat.gcd a b))) (ad 50) 7 (lN b / lN (Nat.gcd a b))) (ad 0) 25 (lN a / lN (Nat.gcd a b))) (ad 0) 26 (lN b / lN (Nat.gcd a b)), ?_, ?_, ad, h, pi, hN, ho, CH_sm ho.2.2.1 (fun n hn k => ⟨rfl, rfl⟩) hc, hb, k1, ⟨?_, ?_⟩, Txt_kp ⟨fun _ _ _ => rfl, rfl, fun _ _ _ => rfl⟩ k3, Img_kp ⟨fun _ _ _ => rfl, rfl, fun _ _ _ => rfl⟩ k4, Drf_kp ⟨fun _ _ _ => rfl, rfl, fun _ _ _ => rfl⟩ k5⟩
        · unfold f_X8_slips
          rw [n_100 hN, hasP_t hp hc.1.1 g, if_neg I10, st8_t gs, if_neg I10, wi_t g3, if_neg I10, e1, e2, e3, others_eq hH hS ho.1 h6 hk8 hc.1, Option.bind_some]
          refine q8.trans ?_
          unfold f_X8_keepFraction f_X8_greatestDivisor
          have q := gd8 E M 40 a b 0 FU hre (by omega) (by unfold FU; omega) (by omega) (by omega)
          rw [nI_0] at q
          rw [q, Option.bind_some, if_neg (fun z => by have := (lN_le (a := Nat.gcd a b) (b := 0) (by omega) (by decide)).mp ((lg_cmp_le _ _).mp z); omega), gzn hg (by omega), gzn hg (by omega)]
          rfl
        · unfold f_X9_slips
          have u : Mu ad M (wl (wl M (ad 50) 6 (lN a / lN (Nat.gcd a b))) (ad 50) 7 (lN b / lN (Nat.gcd a b))) := fun _ _ _ => rfl
          have o := o9 _ u
          have q := q9 _ u
          have dd := day_eq hN hT (RO_mu u r)
          rw [one_t (RO_mu u r).1 g, if_neg I10, st9_t gs, if_neg I10, in_t g3, if_neg I10, o, Option.bind_some, nm_v, e1, e2, e3, shl1 (by omega), nI_wo, oo, dd]
          refine q.trans ?_
          unfold f_X9_lay
          rw [lay9 E _ (ad 0) a b 40 a b FU hre (by unfold FU; omega) (by omega) (by omega) hg]
          rfl
        · rw [ml_wl, ml_wl, ml_wl, ml_wl, ml_wl, ml_wl, ml_wl, ml_wl]
          simp [d50]
        · rw [ml_wl, ml_wl, ml_wl, ml_wl, ml_wl, ml_wl, ml_wl, ml_wl]
          simp [d50]
      · exact fin_bad hN ho hc hb k1 k2 k3 k4 k5 (by unfold f_X8_slips; rw [n_100 hN, hasP_t hp hc.1.1 g, if_neg I10, st8_t gs, if_neg I10, wi_f g3, if_pos I00]; rfl) (fun M1 u => by unfold f_X9_slips; rw [one_t ((u 0 (by decide) 1).trans r.1) g, if_neg I10, st9_t gs, if_neg I10, in_f g3, if_pos I00]; rfl)
    · exact fin_bad hN ho hc hb k1 k2 k3 k4 k5 (by unfold f_X8_slips; rw [n_100 hN, hasP_t hp hc.1.1 g, if_neg I10, st8_f gs, if_pos I00]; rfl) (fun M1 u => by unfold f_X9_slips; rw [one_t ((u 0 (by decide) 1).trans r.1) g, if_neg I10, st9_f gs, if_pos I00]; rfl)
  · exact fin_bad hN ho hc hb k1 k2 k3 k4 k5 (by unfold f_X8_slips; rw [n_100 hN, hasP_f hc.1.1 g, if_pos I00]; rfl) (fun M1 u => by unfold f_X9_slips; rw [one_f ((u 0 (by decide) 1).trans r.1) g, if_pos I00]; rfl)
end Al51b
