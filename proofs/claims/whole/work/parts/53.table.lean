/-! the reference's table of what can be met -/
section Al53
variable {E : Env1} {ad : Nat → Nat} {M M1 M2 : Mem} {h : Ho} {i : Nat}
theorem ft1 : ¬ (false = true) := by decide
def gD (h : Ho) (i d s : Nat) : Bool := decide (wantN h i s d ≤ wordN h (othersN h i s) d)
def gB (h : Ho) (i t s : Nat) : Bool := gD h i ((sT (oS h) + t) % 24) s
theorem gD_mod (h : Ho) (i T s : Nat) : gD h i (T % 24) s = decide (wantN h i s T ≤ wordN h (othersN h i s) T) := by
  unfold gD wantN wordN
  simp only [Nat.mod_mod]
def PlM (ad : Nat → Nat) (M M1 : Mem) : Prop := (∀ n, n ≠ 24 → ∀ k, mi M1 (ad n) k = mi M (ad n) k) ∧ (∀ n, n ≠ 23 → ∀ k, ml M1 (ad n) k = ml M (ad n) k) ∧ M1.2.2 = M.2.2
theorem PlM.rf : PlM ad M M := ⟨fun _ _ _ => rfl, fun _ _ _ => rfl, rfl⟩
theorem PlM.tr (a : PlM ad M M1) (b : PlM ad M1 M2) : PlM ad M M2 := ⟨fun n hn k => (b.1 n hn k).trans (a.1 n hn k), fun n hn k => (b.2.1 n hn k).trans (a.2.1 n hn k), b.2.2.trans a.2.2⟩
theorem RO_pl (a : PlM ad M M1) (r : RO ad M h) : RO ad M1 h := ⟨(a.1 0 (by decide) 1).trans r.1, fun j hj => (a.1 7 (by decide) j).trans (r.2.1 j hj), fun j hj => (a.1 8 (by decide) j).trans (r.2.2.1 j hj), (a.1 0 (by decide) 2).trans r.2.2.2.1, (a.1 0 (by decide) 3).trans r.2.2.2.2.1, fun j hj => (a.1 10 (by decide) j).trans (r.2.2.2.2.2.1 j hj), fun j hj => (a.1 9 (by decide) j).trans (r.2.2.2.2.2.2.1 j hj), fun j hj => (a.1 11 (by decide) j).trans (r.2.2.2.2.2.2.2 j hj)⟩
def GC (ad : Nat → Nat) (M : Mem) (h : Ho) (i : Nat) : Prop := ∀ d, d < 24 → mi M (ad 24) d = nI (setOf 8 (gD h i d))
def LgM (ad : Nat → Nat) (M M1 : Mem) : Prop := (∀ q k, mi M1 q k = mi M q k) ∧ (∀ n, n ≠ 23 → ∀ k, ml M1 (ad n) k = ml M (ad n) k) ∧ M1.2.2 = M.2.2
theorem LgM.rf : LgM ad M M := ⟨fun _ _ => rfl, fun _ _ _ => rfl, rfl⟩
theorem LgM.tr (a : LgM ad M M1) (b : LgM ad M1 M2) : LgM ad M M2 := ⟨fun n k => (b.1 n k).trans (a.1 n k), fun n hn k => (b.2.1 n hn k).trans (a.2.1 n hn k), b.2.2.trans a.2.2⟩
theorem LgM.pl (a : LgM ad M M1) : PlM ad M M1 := ⟨fun n _ k => a.1 _ k, a.2.1, a.2.2⟩
theorem GC_lg (a : LgM ad M M1) (G : GC ad M h i) : GC ad M1 h i := fun d hd => (a.1 _ _).trans (G d hd)
theorem LgM_wl (hI : ∀ n n', ad n = ad n' → n = n') (k : Nat) (v : Int64) : LgM ad M (wl M (ad 23) k v) := ⟨fun _ _ => rfl, fun n hn j => by rw [ml_wl, if_neg (fun z => hn (hI _ _ z.1))], rfl⟩
def TBL (ad : Nat → Nat) (M : Mem) (h : Ho) (i n : Nat) : Prop := ∀ d R, d ≤ n → R < 256 → (tb ad M d R = true ↔ can (gB h i) (n - d) d R)
def stM (ad : Nat → Nat) (M : Mem) (d r : Nat) (b : Bool) : Mem := wl M (ad 23) (4 * d + r / 64) (ml M (ad 23) (4 * d + r / 64) ||| (if b then ((1 : Int64) <<< (lN (r % 64) &&& 63)) else 0))
theorem tb_st {d r d' R : Nat} (hr : r < 256) (hR : R < 256) (b : Bool) : tb ad (stM ad M d r b) d' R = (tb ad M d' R || (b && decide (d' = d) && decide (R = r))) := by
  unfold tb stM
  rw [ml_wl]
  have hm : R % 64 < 64 := Nat.mod_lt _ (by decide)
  have hm2 : r % 64 < 64 := Nat.mod_lt _ (by decide)
  by_cases e : 4 * d' + R / 64 = 4 * d + r / 64
  · rw [if_pos ⟨rfl, e⟩, e]
    have e1 : d' = d := by omega
    have e2 : R / 64 = r / 64 := by omega
    cases b
    · rw [if_neg ft1, lb_or0]; simp
    · rw [if_pos rfl, lb_or1 _ hm2 hm, decide_eq_true e1]
      congr 1
      by_cases q : R = r
      · subst q; simp
      · rw [decide_eq_false q, decide_eq_false (by omega)]; rfl
  · rw [if_neg (fun z => e z.2)]
    by_cases e1 : d' = d
    · rw [decide_eq_false (show ¬ R = r from fun z => e (by rw [e1, z]))]; simp
    · rw [decide_eq_false e1]; simp
theorem L128_sp (hN : Nm E (ad 50) (ad 0) ad) (k35 : Mem → Nat → Int32 → Option Mem) (k41 : Mem → Nat → Int32 → Int32 → Option Mem) {d r : Nat} (hd : d ≤ 40) (hr : r < 256) (b : Bool) : f_X9_setMay_L128 E k35 k41 M (ad 0) (nI d) (nI r) (if b then 1 else 0) = k41 (stM ad M d r b) (ad 0) (nI d) (nI (r + 1)) := by
  unfold f_X9_setMay_L128 stM
  have q1 : nI r / (64 : Int32) = nI (r / 64) := pk_div (d := 64) (by omega) (by decide) (by decide)
  have q2 : nI r - nI r / (64 : Int32) * (64 : Int32) = nI (r % 64) := pk_rem (d := 64) (by omega) (by decide) (by decide)
  rw [q2, q1, n4, nI_add, gd_nI (by omega) (by decide), ix_nI (by omega), n_23 hN, nI_l (by omega), nI_1, nm_v, nm_v]
  cases b
  · rw [if_neg ft1, if_pos rfl, if_neg ft1]
  · rw [if_pos rfl, if_neg I10, if_pos rfl]
theorem L61_sp (hN : Nm E (ad 50) (ad 0) ad) (r : RO ad M h) (G : GC ad M h i) (hT : sT (oS h) ≤ 9999) (k35 : Mem → Nat → Int32 → Option Mem) (k41 : Mem → Nat → Int32 → Int32 → Option Mem) {d R k : Nat} (hd : d < 40) (hR : R < 256) (hB : ∀ R, R < 256 → (tb ad M (d + 1) R = true ↔ can (gB h i) k (d + 1) R)) : ∃ b : Bool, (b = true ↔ can (gB h i) (k + 1) d R) ∧ f_X9_setMay_L61 E k35 k41 FU M (ad 0) (nI d) (nI R) (if tb ad M (d + 1) R then 1 else 0) 0 = f_X9_setMay_L128 E k35 k41 M (ad 0) (nI d) (nI R) (if b then 1 else 0) := by
  refine loop_QFU (fun q (fl : Int32) w => f_X9_setMay_L61 E k35 k41 q M (ad 0) (nI d) (nI R) fl w) (fun j fl => ∃ b : Bool, fl = (if b then 1 else 0) ∧ (b = true ↔ (can (gB h i) k (d + 1) R ∨ ∃ s, s < j ∧ R.testBit s = true ∧ gB h i d s = true ∧ can (gB h i) k (d + 1) (wo R (2 ^ s))))) (fun y => ∃ b : Bool, (b = true ↔ can (gB h i) (k + 1) d R) ∧ y = f_X9_setMay_L128 E k35 k41 M (ad 0) (nI d) (nI R) (if b then 1 else 0)) 8 (by decide) _ ⟨tb ad M (d + 1) R, rfl, (hB R hR).trans ⟨Or.inl, fun z => z.resolve_right (fun ⟨s, h, _⟩ => by omega)⟩⟩ ?_ ?_
  · intro q j fl hj ⟨b, ef, eb⟩
    show (∃ s', b_X9_setMay_L61 E k35 k41 (f_X9_setMay_L61 E k35 k41 q) M (ad 0) (nI d) (nI R) fl (nI j) = f_X9_setMay_L61 E k35 k41 q M (ad 0) (nI d) (nI R) s' (nI (j + 1)) ∧ _) ∨ ∃ b : Bool, _ ∧ b_X9_setMay_L61 E k35 k41 (f_X9_setMay_L61 E k35 k41 q) M (ad 0) (nI d) (nI R) fl (nI j) = _
    unfold b_X9_setMay_L61
    rw [if_neg (lt8 hj), ef]
    cases b
    · refine Or.inl ?_
      have hidx : (sT (oS h) + d) % 24 < 24 := Nat.mod_lt _ (by decide)
      have hset : setOf 8 (gD h i ((sT (oS h) + d) % 24)) < 2 ^ 8 := set_lt 8 _
      have hand : R &&& setOf 8 (gD h i ((sT (oS h) + d) % 24)) ≤ R := Nat.and_le_left
      have hwo : wo R (2 ^ j) < 256 := wo_lt (n := 8) hR
      rw [if_neg ft1, if_pos rfl, r.2.2.2.1, nI_add, rem24 (by omega), gd_nI hidx (by decide), ix_nI (by omega), n_24 hN, G _ hidx, nI_and, has_eq (by omega) (by omega), nI_1, nI_1, shl1 (by omega), nI_wo, isMay_eq hN (by omega) hwo, Option.bind_some, Nat.testBit_and, tb_set, decide_eq_true hj, Bool.true_and]
      have step : ∀ b' : Bool, (b' = true ↔ (R.testBit j = true ∧ gB h i d j = true ∧ can (gB h i) k (d + 1) (wo R (2 ^ j)))) → (b' = true ↔ (can (gB h i) k (d + 1) R ∨ ∃ s, s < j + 1 ∧ R.testBit s = true ∧ gB h i d s = true ∧ can (gB h i) k (d + 1) (wo R (2 ^ s)))) := by
        intro b' hb'
        constructor
        · intro q; exact Or.inr ⟨j, by omega, hb'.mp q⟩
        · intro q
          rcases q with q | ⟨s, hs, q⟩
          · exact absurd (eb.mpr (Or.inl q)) ft1
          · by_cases e : s = j
            · subst e; exact hb'.mpr q
            · exact absurd (eb.mpr (Or.inr ⟨s, by omega, q⟩)) ft1
      simp only [fl01]
      cases h1 : (R.testBit j && gD h i ((sT (oS h) + d) % 24) j)
      · rw [if_pos rfl]
        refine ⟨0, rfl, false, rfl, step false ⟨fun z => absurd z ft1, fun ⟨a, b, _⟩ => ?_⟩⟩
        have b' : gD h i ((sT (oS h) + d) % 24) j = true := b
        rw [a, b'] at h1
        exact absurd h1 (by decide)
      · obtain ⟨a, b'⟩ := Bool.and_eq_true_iff.mp h1
        rw [if_neg (by decide)]
        cases h2 : tb ad M (d + 1) (wo R (2 ^ j))
        · rw [if_pos rfl]
          refine ⟨0, rfl, false, rfl, step false ⟨fun z => absurd z ft1, fun ⟨_, _, c⟩ => ?_⟩⟩
          rw [← hB _ hwo, h2] at c
          exact absurd c ft1
        · rw [if_neg (by decide)]
          exact ⟨1, rfl, true, rfl, step true ⟨fun _ => ⟨a, b', (hB _ hwo).mp h2⟩, fun _ => rfl⟩⟩
    · refine Or.inr ⟨true, ⟨fun _ => ?_, fun _ => rfl⟩, ?_⟩
      · rcases eb.mp rfl with q | ⟨s, hs, q⟩
        · exact Or.inl q
        · exact Or.inr ⟨s, by omega, q⟩
      · rw [if_pos rfl, if_neg I10]
  · intro q fl ⟨b, ef, eb⟩
    refine ⟨b, eb, ?_⟩
    show b_X9_setMay_L61 E k35 k41 (f_X9_setMay_L61 E k35 k41 q) M (ad 0) (nI d) (nI R) fl (nI 8) = _
    unfold b_X9_setMay_L61
    rw [if_pos (by decide), ef]
/-- rows from D on done, of row D those below r -/
def SR (ad : Nat → Nat) (M M1 : Mem) (h : Ho) (i n D r : Nat) : Prop := LgM ad M M1 ∧ ∀ d R, d ≤ n → R < 256 → (tb ad M1 d R = true ↔ (D < d ∨ (d = D ∧ R < r)) ∧ can (gB h i) (n - d) d R)
theorem L41_sp (hN : Nm E (ad 50) (ad 0) ad) (r : RO ad M h) (G : GC ad M h i) (hT : sT (oS h) ≤ 9999) (k35 : Mem → Nat → Int32 → Option Mem) {n D : Nat} (hn : n ≤ 40) (hD : D < n) (Mx : Mem) (hs : SR ad M Mx h i n D 0) : ∃ Mz, f_X9_setMay_L41 E k35 FU Mx (ad 0) (nI D) 0 = k35 Mz (ad 0) (nI D + (-1)) ∧ SR ad M Mz h i n D 256 := by
  refine loop_QFU (fun q (Mx : Mem) w => f_X9_setMay_L41 E k35 q Mx (ad 0) (nI D) w) (fun R Mx => SR ad M Mx h i n D R) (fun y => ∃ Mz, y = k35 Mz (ad 0) (nI D + (-1)) ∧ SR ad M Mz h i n D 256) 256 (by decide) Mx hs ?_ ?_
  · intro q R Mx hR ⟨lg, ht⟩
    refine Or.inl ?_
    show ∃ s', b_X9_setMay_L41 E k35 (f_X9_setMay_L41 E k35 q) Mx (ad 0) (nI D) (nI R) = f_X9_setMay_L41 E k35 q s' (ad 0) (nI D) (nI (R + 1)) ∧ _
    unfold b_X9_setMay_L41
    obtain ⟨b, hb, e⟩ := L61_sp (k := n - D - 1) hN (RO_pl lg.pl r) (GC_lg lg G) hT k35 (f_X9_setMay_L41 E k35 q) (d := D) (R := R) (by omega) hR (fun R' hR' => by
      rw [ht (D + 1) R' (by omega) hR', show n - (D + 1) = n - D - 1 by omega]
      exact ⟨fun z => z.2, fun z => ⟨Or.inl (by omega), z⟩⟩)
    rw [if_neg (show ¬ (256 : Int32) ≤ nI R from nI_ge (a := R) (b := 256) hR (by decide)), nI_1, isMay_eq hN (by omega) hR, Option.bind_some, e, L128_sp hN k35 _ (by omega) hR]
    refine ⟨_, rfl, lg.tr (LgM_wl hN.2.2.1 _ _), fun d R' hd hR' => ?_⟩
    rw [tb_st hR hR', Bool.or_eq_true_iff, ht d R' hd hR', show n - D - 1 + 1 = n - D by omega] at *
    constructor
    · intro z
      rcases z with ⟨z1, z2⟩ | z
      · exact ⟨by omega, z2⟩
      · simp only [Bool.and_eq_true, decide_eq_true_eq] at z
        obtain ⟨⟨z1, rfl⟩, rfl⟩ := z
        exact ⟨by omega, hb.mp z1⟩
    · intro ⟨z1, z2⟩
      by_cases e : d = D ∧ R' = R
      · obtain ⟨rfl, rfl⟩ := e
        refine Or.inr ?_
        simp only [Bool.and_eq_true, decide_eq_true_eq]
        exact ⟨⟨hb.mpr z2, trivial⟩, trivial⟩
      · exact Or.inl ⟨by omega, z2⟩
  · intro q Mx hs
    refine ⟨Mx, ?_, hs⟩
    show b_X9_setMay_L41 E k35 (f_X9_setMay_L41 E k35 q) Mx (ad 0) (nI D) (nI 256) = _
    unfold b_X9_setMay_L41
    rw [if_pos (by decide)]
theorem dm1 (v : Nat) : nI v + (-1 : Int32) = nI v - 1 := by rw [Int32.sub_eq_add_neg]
theorem L35_sp (hN : Nm E (ad 50) (ad 0) ad) (r : RO ad M h) (G : GC ad M h i) (hT : sT (oS h) ≤ 9999) {n : Nat} (hn : n ≤ 40) : ∀ v f Mx, v < f → v ≤ n → SR ad M Mx h i n v 256 → ∃ Mz, f_X9_setMay_L35 E f Mx (ad 0) (nI v - 1) = some Mz ∧ SR ad M Mz h i n 0 256 := by
  intro v
  induction v with
  | zero =>
    intro f Mx hf _ hs
    obtain ⟨f, rfl⟩ : ∃ f', f = f' + 1 := ⟨f - 1, by omega⟩
    refine ⟨Mx, ?_, hs⟩
    show b_X9_setMay_L35 E (f_X9_setMay_L35 E f) Mx (ad 0) (nI 0 - 1) = _
    unfold b_X9_setMay_L35
    rw [if_pos (by decide)]
  | succ v ih =>
    intro f Mx hf hv hs
    obtain ⟨f, rfl⟩ : ∃ f', f = f' + 1 := ⟨f - 1, by omega⟩
    show ∃ Mz, b_X9_setMay_L35 E (f_X9_setMay_L35 E f) Mx (ad 0) (nI (v + 1) - 1) = _ ∧ _
    unfold b_X9_setMay_L35
    obtain ⟨Mz, ez, hz⟩ := L41_sp hN r G hT (f_X9_setMay_L35 E f) hn (D := v) (by omega) Mx ⟨hs.1, fun d R hd hR => (hs.2 d R hd hR).trans ⟨fun z => ⟨by omega, z.2⟩, fun z => ⟨by omega, z.2⟩⟩⟩
    rw [nI_pred, if_neg (nI_pos (by omega)), ez, dm1]
    exact ih f Mz (by omega) (by omega) hz
theorem setMay_sp (hN : Nm E (ad 50) (ad 0) ad) (r : RO ad M h) (G : GC ad M h i) (hT : sT (oS h) ≤ 9999) {n : Nat} (hn : n ≤ 40) : ∃ M1, f_X9_setMay E M (ad 0) (nI n) = some M1 ∧ LgM ad M M1 ∧ TBL ad M1 h i n := by
  have hI := hN.2.2.1
  unfold f_X9_setMay
  have key : ∃ Mz, f_X9_setMay_L2 E FU M (ad 0) (nI n) 0 = f_X9_setMay_L35 E FU (wl Mz (ad 23) (4 * n) 1) (ad 0) (nI n - 1) ∧ LgM ad M Mz ∧ ∀ k, k < 164 → ml Mz (ad 23) k = 0 := by
    refine loop_QFU (fun q (Mx : Mem) w => f_X9_setMay_L2 E q Mx (ad 0) (nI n) w) (fun j Mx => LgM ad M Mx ∧ ∀ k, k < j → ml Mx (ad 23) k = 0) (fun y => ∃ Mz, y = f_X9_setMay_L35 E FU (wl Mz (ad 23) (4 * n) 1) (ad 0) (nI n - 1) ∧ LgM ad M Mz ∧ ∀ k, k < 164 → ml Mz (ad 23) k = 0) 164 (by decide) M ⟨LgM.rf, fun k hk => by omega⟩ ?_ ?_
    · intro q j Mx hj ⟨lg, hz⟩
      refine Or.inl ⟨wl Mx (ad 23) j 0, ?_, lg.tr (LgM_wl hI _ _), fun k hk => ?_⟩
      · show b_X9_setMay_L2 E (f_X9_setMay_L2 E q) Mx (ad 0) (nI n) (nI j) = _
        unfold b_X9_setMay_L2
        rw [if_neg (show ¬ (164 : Int32) ≤ nI j from nI_ge (a := j) (b := 164) hj (by decide)), gd_nI hj (by decide), ix_nI (by omega), n_23 hN, nI_1]
      · rw [ml_wl]
        by_cases e : k = j
        · rw [if_pos ⟨rfl, e⟩]
        · rw [if_neg (fun z => e z.2)]; exact hz k (by omega)
    · intro q Mx hs
      refine ⟨Mx, ?_, hs⟩
      show b_X9_setMay_L2 E (f_X9_setMay_L2 E q) Mx (ad 0) (nI n) (nI 164) = _
      unfold b_X9_setMay_L2
      rw [if_pos (by decide), n4, gd_nI (by omega) (by decide), ix_nI (by omega), n_23 hN]
  obtain ⟨Mz, e, lg, hz⟩ := key
  rw [e]
  have hsr : SR ad M (wl Mz (ad 23) (4 * n) 1) h i n n 256 := by
    refine ⟨lg.tr (LgM_wl hI _ _), fun d R hd hR => ?_⟩
    unfold tb
    rw [ml_wl]
    by_cases e : 4 * d + R / 64 = 4 * n
    · rw [if_pos ⟨rfl, e⟩, lb_1]
      have e1 : d = n := by omega
      subst e1
      rw [Nat.sub_self]
      show _ ↔ _ ∧ R = 0
      constructor
      · intro z
        have := of_decide_eq_true z
        exact ⟨by omega, by omega⟩
      · intro z
        exact decide_eq_true (by rw [z.2])
    · rw [if_neg (fun z => e z.2), hz _ (by omega), lb_0]
      constructor
      · intro z; exact absurd z ft1
      · intro ⟨z1, z2⟩
        have e1 : d = n := by omega
        subst e1
        rw [Nat.sub_self] at z2
        have z2 : R = 0 := z2
        subst z2
        exact absurd rfl e
  obtain ⟨M1, e1, s1⟩ := L35_sp hN r G hT hn n FU _ (by unfold FU; omega) (Nat.le_refl _) hsr
  exact ⟨M1, e1, s1.1, fun d R hd hR => (s1.2 d R hd hR).trans ⟨fun z => z.2, fun z => ⟨by omega, z⟩⟩⟩
end Al53
