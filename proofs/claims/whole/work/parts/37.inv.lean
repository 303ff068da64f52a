/-! what always holds -/
section Inv37
def Ctr (ad : Nat → Nat) (M : Mem) : Prop := ∀ c, c < 3 → mi M (ad 50) (8 + c) = mi M (ad 1) c
def Frc (ad : Nat → Nat) (M : Mem) : Prop := ml M (ad 50) 6 = ml M (ad 0) 25 ∧ ml M (ad 50) 7 = ml M (ad 0) 26
def Txt (ad : Nat → Nat) (M : Mem) : Prop := ∃ t, t ≤ 150 ∧ mi M (ad 54) 0 = nI t ∧ mi M (ad 0) 16 = nI t ∧ ∀ i, i < t → mi M (ad 56) i = mi M (ad 15) i ∧ ∃ c, c < 128 ∧ mi M (ad 15) i = nI c
def Img (ad : Nat → Nat) (M : Mem) : Prop := ∀ i, i < 2 → mi M (ad 53) i = mi M (ad 28) i ∧ (∃ pi, PM ad M (300 + 100 * i) pi) ∧ (mi M (ad 53) i = 0 ∨ ∃ g pi, okH g ∧ CH ad M (300 + 100 * i) g pi ∧ IB (fun k => mi M (ad 27) (300 * i + k)) g)
def Drf (ad : Nat → Nat) (M : Mem) : Prop := ∃ pi, PM ad M 200 pi
def Inv (E : Env1) (x m : Nat) (M : Mem) : Prop := ∃ ad h pi, Nm E x m ad ∧ okH h ∧ CH ad M 100 h pi ∧ IB (lv ad M) h ∧ Ctr ad M ∧ Frc ad M ∧ Txt ad M ∧ Img ad M ∧ Drf ad M
variable {E : Env1} {x m : Nat} {ad : Nat → Nat} {M M1 M2 : Mem} {h h' : Ho} {p : Nat}
/-- same ints and references under these names -/
def Sm (ad : Nat → Nat) (M M1 : Mem) (P : Nat → Prop) : Prop := ∀ n, P n → ∀ k, mi M1 (ad n) k = mi M (ad n) k ∧ mr M1 (ad n) k = mr M (ad n) k
theorem Sm.tr {P : Nat → Prop} (a : Sm ad M M1 P) (b : Sm ad M1 M2 P) : Sm ad M M2 P := fun n hn k => ⟨((b n hn k).1).trans (a n hn k).1, ((b n hn k).2).trans (a n hn k).2⟩
theorem Sm.mono {P Q : Nat → Prop} (a : Sm ad M M1 P) (h : ∀ n, Q n → P n) : Sm ad M M1 Q := fun n hn => a n (h n hn)
theorem Sm.of_off {lo hi : Nat} (o : Off ad M M1 lo hi) : Sm ad M M1 (fun n => n < lo ∨ hi ≤ n) := fun n hn k => ⟨o.1 n hn k, o.mr _ _⟩
theorem Sm.rf {P : Nat → Prop} : Sm ad M M P := fun _ _ _ => ⟨rfl, rfl⟩
theorem CO_sm {H : Nat} (s : Sm ad M M1 (fun n => H ≤ n ∧ n < H + 48)) (c : CO ad M H h) : CO ad M1 H h := ⟨(s H (by omega) 0).1.trans c.1, fun i hi => (s (H + 1) (by omega) i).1.trans (c.2.1 i hi), fun i hi => (s (H + 2) (by omega) i).1.trans (c.2.2.1 i hi), CS_same (fun n h1 h2 k => (s n (by omega) k).1) c.2.2.2⟩
theorem CR_sm {R n w : Nat} {f : Nat → Int32} (s : ∀ j, R ≤ j → j < R + 2 → ∀ k, mi M1 (ad j) k = mi M (ad j) k) (c : CR ad M R n w f) : CR ad M1 R n w f := ⟨(s R (by omega) (by omega) 0).trans c.1, fun r q h1 h2 => (s (R + 1) (by omega) (by omega) _).trans (c.2 r q h1 h2)⟩
theorem PM_sm {H : Nat} {pi : Nat → Nat} (s : ∀ k, mr M1 (ad (H + 5)) k = mr M (ad (H + 5)) k) (c : PM ad M H pi) : PM ad M1 H pi := ⟨fun j hj => ⟨(s j).trans (c.1 j hj).1, (c.1 j hj).2⟩, c.2⟩
theorem CH_sm {H : Nat} (hu : oU h ≤ 8) {pi : Nat → Nat} (s : Sm ad M M1 (fun n => H ≤ n ∧ n < H + 48)) (c : CH ad M H h pi) : CH ad M1 H h pi := by
  obtain ⟨c1, c2, c3, c4, c5, c6, c7⟩ := c
  exact ⟨CO_sm s c1, (s H (by omega) 5).1.trans c2, CR_sm (fun j _ _ k => (s j (by omega) k).1) c3, CR_sm (fun j _ _ k => (s j (by omega) k).1) c4, CR_sm (fun j _ _ k => (s j (by omega) k).1) c5, PM_sm (fun k => (s (H + 5) (by omega) k).2) c6, fun j hj => CS_same (fun n h1 h2 k => (s n ⟨by omega, by have := (c6.1 j (Nat.lt_of_lt_of_le hj hu)).2; omega⟩ k).1) (c7 j hj)⟩
theorem lv_all (s : ∀ n, n < 50 → ∀ k, mi M1 (ad n) k = mi M (ad n) k) : lv ad M1 = lv ad M := by
  funext k
  unfold lv
  simp only [s 0 (by omega), s 10 (by omega), s 9 (by omega), s 11 (by omega), s 7 (by omega), s 8 (by omega), s 12 (by omega), s 13 (by omega), s 14 (by omega), s 20 (by omega)]
/-- what the text and the images see -/
def Kp (ad : Nat → Nat) (M M1 : Mem) : Prop := (∀ n, (n = 15 ∨ n = 27 ∨ n = 28 ∨ n = 53 ∨ n = 54 ∨ n = 56 ∨ 300 ≤ n) → ∀ k, mi M1 (ad n) k = mi M (ad n) k) ∧ mi M1 (ad 0) 16 = mi M (ad 0) 16 ∧ ∀ n, 200 ≤ n → ∀ k, mr M1 (ad n) k = mr M (ad n) k
theorem Kp.tr (a : Kp ad M M1) (b : Kp ad M1 M2) : Kp ad M M2 := ⟨fun n hn k => (b.1 n hn k).trans (a.1 n hn k), b.2.1.trans a.2.1, fun n hn k => (b.2.2 n hn k).trans (a.2.2 n hn k)⟩
theorem Kp.rf : Kp ad M M := ⟨fun _ _ _ => rfl, rfl, fun _ _ _ => rfl⟩
theorem Kp_off {lo hi : Nat} (o : Off ad M M1 lo hi) (h : 57 ≤ lo ∧ hi ≤ 300) : Kp ad M M1 := ⟨fun n hn k => o.1 n (by omega) k, o.1 0 (by omega) 16, fun _ _ k => o.mr _ _⟩
theorem Kp_St (a : StM ad M M1) : Kp ad M M1 := ⟨fun n hn k => a.1 n (by omega) (by omega) (by omega) (by omega) k, a.2.1 16 (by omega) (by omega), fun n _ k => congrArg (fun z => z.2 (ad n) k) a.2.2⟩
theorem Kp_wi (hI : ∀ n n', ad n = ad n' → n = n') {a k : Nat} {v : Int32} (h : (a ≠ 15 ∧ a ≠ 27 ∧ a ≠ 28 ∧ a ≠ 53 ∧ a ≠ 54 ∧ a ≠ 56 ∧ a < 300) ∧ (a = 0 → k ≠ 16)) : Kp ad M (wi M (ad a) k v) := ⟨fun n hn j => by rw [mi_wi, if_neg (fun z => by have := hI _ _ z.1; omega)], by rw [mi_wi, if_neg (fun z => by have := hI _ _ z.1; omega)], fun _ _ _ => rfl⟩
theorem Kp_upR (hI : ∀ n n', ad n = ad n' → n = n') {a l k : Nat} {v : Nat → Int32} (h : a ≠ 15 ∧ a ≠ 27 ∧ a ≠ 28 ∧ a ≠ 53 ∧ a ≠ 54 ∧ a ≠ 56 ∧ a < 300 ∧ a ≠ 0) : Kp ad M (upR M (ad a) l k v) := ⟨fun n hn j => by rw [mi_upR, if_neg (fun z => by have := hI _ _ z.1; omega)], by rw [mi_upR, if_neg (fun z => by have := hI _ _ z.1; omega)], fun _ _ _ => rfl⟩
theorem Txt_kp (k : Kp ad M M1) (t : Txt ad M) : Txt ad M1 := by
  obtain ⟨n, h1, h2, h3, h4⟩ := t
  exact ⟨n, h1, (k.1 54 (by omega) 0).trans h2, k.2.1.trans h3, fun i hi => ⟨(k.1 56 (by omega) i).trans ((h4 i hi).1.trans (k.1 15 (by omega) i).symm), by
    obtain ⟨c, c1, c2⟩ := (h4 i hi).2
    exact ⟨c, c1, (k.1 15 (by omega) i).trans c2⟩⟩⟩
theorem Img_kp (k : Kp ad M M1) (t : Img ad M) : Img ad M1 := by
  intro i hi
  obtain ⟨h1, ⟨pi, h2⟩, h3⟩ := t i hi
  refine ⟨(k.1 53 (by omega) i).trans (h1.trans (k.1 28 (by omega) i).symm), ⟨pi, PM_sm (fun j => k.2.2 _ (by omega) j) h2⟩, ?_⟩
  rcases h3 with h3 | ⟨g, pi, g1, g2, g3⟩
  · exact Or.inl ((k.1 53 (by omega) i).trans h3)
  · refine Or.inr ⟨g, pi, g1, CH_sm g1.2.2.1 (fun n hn j => ⟨k.1 n (by omega) j, k.2.2 n (by omega) j⟩) g2, ?_⟩
    have e : (fun j => mi M1 (ad 27) (300 * i + j)) = fun j => mi M (ad 27) (300 * i + j) := funext fun j => k.1 27 (by omega) _
    rw [e]
    exact g3
theorem Drf_kp (k : Kp ad M M1) (t : Drf ad M) : Drf ad M1 := by
  obtain ⟨pi, t⟩ := t
  exact ⟨pi, PM_sm (fun j => k.2.2 _ (by omega) j) t⟩
/-! refusals -/
/-- the reference's cells as they were -/
def Mu (ad : Nat → Nat) (M M1 : Mem) : Prop := ∀ n, n < 50 → ∀ k, mi M1 (ad n) k = mi M (ad n) k
theorem Mu.rf : Mu ad M M := fun _ _ _ => rfl
theorem Mu_off {lo hi : Nat} (o : Off ad M M1 lo hi) (h : 50 ≤ lo) : Mu ad M M1 := fun n hn k => o.1 n (by omega) k
theorem ML_mu {s : Sd} (u : Mu ad M M1) (c : ML ad M p s) : ML ad M1 p s := ⟨(u 0 (by omega) 2).trans c.1, (u 0 (by omega) 3).trans c.2.1, fun i hi => (u 10 (by omega) i).trans (c.2.2.1 i hi), fun i hi => (u 9 (by omega) i).trans (c.2.2.2.1 i hi), fun i hi => (u 11 (by omega) i).trans (c.2.2.2.2 i hi)⟩
theorem RO_mu (u : Mu ad M M1) (c : RO ad M h) : RO ad M1 h := ⟨(u 0 (by omega) 1).trans c.1, fun i hi => (u 7 (by omega) i).trans (c.2.1 i hi), fun i hi => (u 8 (by omega) i).trans (c.2.2.1 i hi), ML_mu u c.2.2.2⟩
theorem IB_mu (u : Mu ad M M1) (c : IB (lv ad M) h) : IB (lv ad M1) h := by rw [lv_all u]; exact c
theorem refM (hI : ∀ n n', ad n = ad n' → n = n') (c : Nat) : Mu ad M (wi M (ad 50) (8 + c) (mi M (ad 50) (8 + c) + 1)) := fun n hn k => by rw [mi_wi, if_neg (fun z => by have := hI _ _ z.1; omega)]
/-- both count a refusal -/
theorem inv_ref {pi : Nat → Nat} (hN : Nm E x m ad) (ho : okH h) (hc : CH ad M 100 h pi) (hb : IB (lv ad M) h) (h1 : Ctr ad M) (h2 : Frc ad M) (h3 : Txt ad M) (h4 : Img ad M) (h5 : Drf ad M) (c : Nat) : Inv E x m (wi (wi M (ad 50) (8 + c) (mi M (ad 50) (8 + c) + 1)) (ad 1) c (mi (wi M (ad 50) (8 + c) (mi M (ad 50) (8 + c) + 1)) (ad 1) c + 1)) := by
  have hI := hN.2.2.1
  have k : Kp ad M (wi (wi M (ad 50) (8 + c) (mi M (ad 50) (8 + c) + 1)) (ad 1) c (mi (wi M (ad 50) (8 + c) (mi M (ad 50) (8 + c) + 1)) (ad 1) c + 1)) := (Kp_wi hI (by omega)).tr (Kp_wi hI (by omega))
  refine ⟨ad, h, pi, hN, ho, CH_sm (M := M) ho.2.2.1 (fun n hn j => ⟨?_, rfl⟩) hc, ?_, fun i hi => ?_, h2, Txt_kp k h3, Img_kp k h4, Drf_kp k h5⟩
  · rw [mi_wi, if_neg (fun z => by have := hI _ _ z.1; omega), mi_wi, if_neg (fun z => by have := hI _ _ z.1; omega)]
  · have e : lv ad (wi (wi M (ad 50) (8 + c) (mi M (ad 50) (8 + c) + 1)) (ad 1) c (mi (wi M (ad 50) (8 + c) (mi M (ad 50) (8 + c) + 1)) (ad 1) c + 1)) = lv ad M := by
      funext j
      unfold lv
      have q : ∀ n, n ≠ 50 → n ≠ 1 → ∀ k, mi (wi (wi M (ad 50) (8 + c) (mi M (ad 50) (8 + c) + 1)) (ad 1) c (mi (wi M (ad 50) (8 + c) (mi M (ad 50) (8 + c) + 1)) (ad 1) c + 1)) (ad n) k = mi M (ad n) k := fun n h1 h2 k => by rw [mi_wi, if_neg (fun z => by have := hI _ _ z.1; omega), mi_wi, if_neg (fun z => by have := hI _ _ z.1; omega)]
      simp only [q 0 (by omega) (by omega), q 10 (by omega) (by omega), q 9 (by omega) (by omega), q 11 (by omega) (by omega), q 7 (by omega) (by omega), q 8 (by omega) (by omega), q 12 (by omega) (by omega), q 13 (by omega) (by omega), q 14 (by omega) (by omega), q 20 (by omega) (by omega)]
    rw [e]
    exact hb
  · have n1 : ad 50 ≠ ad 1 := fun z => by have := hI _ _ z; omega
    simp only [mi_wi]
    rw [if_neg (fun z => n1 z.1)]
    by_cases e : i = c
    · subst e
      rw [if_pos ⟨trivial, rfl⟩, if_pos ⟨trivial, rfl⟩, if_neg (fun z => n1 z.1.symm), h1 i hi]
    · rw [if_neg (fun z => e (by omega)), if_neg (fun z => e z.2), if_neg (fun z => n1 z.1.symm)]
      exact h1 i hi
theorem fin_bad {pi : Nat → Nat} (hN : Nm E (ad 50) (ad 0) ad) (ho : okH h) (hc : CH ad M 100 h pi) (hb : IB (lv ad M) h) (h1 : Ctr ad M) (h2 : Frc ad M) (h3 : Txt ad M) (h4 : Img ad M) (h5 : Drf ad M) {F : Option (Int32 × Mem)} {G : Mem → Option (Int32 × Mem)} (hF : F = some (f_X8_refuse E M (ad 50) (-2))) (hG : ∀ M1, Mu ad M M1 → G M1 = some (f_X9_bad E M1 (ad 0))) : ∃ r M1 M2, F = some (r, M1) ∧ G M1 = some (r, M2) ∧ Inv E (ad 50) (ad 0) M2 := by
  refine ⟨-2, _, _, hF, (hG _ (refM hN.2.2.1 0)).trans ?_, inv_ref hN ho hc hb h1 h2 h3 h4 h5 0⟩
  unfold f_X9_bad
  rw [n_1 hN]
theorem fin_ten {pi : Nat → Nat} (hN : Nm E (ad 50) (ad 0) ad) (ho : okH h) (hc : CH ad M 100 h pi) (hb : IB (lv ad M) h) (h1 : Ctr ad M) (h2 : Frc ad M) (h3 : Txt ad M) (h4 : Img ad M) (h5 : Drf ad M) {F : Option (Int32 × Mem)} {G : Mem → Option (Int32 × Mem)} (hF : F = some (f_X8_refusePlace E M (ad 50))) (hG : ∀ M1, Mu ad M M1 → G M1 = some (f_X9_tenBad E M1 (ad 0))) : ∃ r M1 M2, F = some (r, M1) ∧ G M1 = some (r, M2) ∧ Inv E (ad 50) (ad 0) M2 := by
  refine ⟨-10, _, _, hF, (hG _ (refM hN.2.2.1 0)).trans ?_, inv_ref hN ho hc hb h1 h2 h3 h4 h5 0⟩
  unfold f_X9_tenBad f_X9_bad
  dsimp only [nm]
  rw [n_1 hN]
theorem fin_no {pi : Nat → Nat} (hN : Nm E (ad 50) (ad 0) ad) (ho : okH h) (hc : CH ad M 100 h pi) (hb : IB (lv ad M) h) (h1 : Ctr ad M) (h2 : Frc ad M) (h3 : Txt ad M) (h4 : Img ad M) (h5 : Drf ad M) {F : Option (Int32 × Mem)} {G : Mem → Option (Int32 × Mem)} (hF : F = some (f_X8_refuse E M (ad 50) (-3))) (hG : ∀ M1, Mu ad M M1 → G M1 = some (f_X9_no E M1 (ad 0))) : ∃ r M1 M2, F = some (r, M1) ∧ G M1 = some (r, M2) ∧ Inv E (ad 50) (ad 0) M2 := by
  refine ⟨-3, _, _, hF, (hG _ (refM hN.2.2.1 1)).trans ?_, inv_ref hN ho hc hb h1 h2 h3 h4 h5 1⟩
  unfold f_X9_no
  rw [n_1 hN]
theorem fin_full {pi : Nat → Nat} (hN : Nm E (ad 50) (ad 0) ad) (ho : okH h) (hc : CH ad M 100 h pi) (hb : IB (lv ad M) h) (h1 : Ctr ad M) (h2 : Frc ad M) (h3 : Txt ad M) (h4 : Img ad M) (h5 : Drf ad M) {F : Option (Int32 × Mem)} {G : Mem → Option (Int32 × Mem)} (hF : F = some (f_X8_refuse E M (ad 50) (-4))) (hG : ∀ M1, Mu ad M M1 → G M1 = some (f_X9_full E M1 (ad 0))) : ∃ r M1 M2, F = some (r, M1) ∧ G M1 = some (r, M2) ∧ Inv E (ad 50) (ad 0) M2 := by
  refine ⟨-4, _, _, hF, (hG _ (refM hN.2.2.1 2)).trans ?_, inv_ref hN ho hc hb h1 h2 h3 h4 h5 2⟩
  unfold f_X9_full
  rw [n_1 hN]
/-! ranges -/
def inP (p : Nat) (a : Int32) : Prop := 0 ≤ a ∧ a ≤ nI p - 1
theorem inP_ex {p : Nat} {a : Int32} (hp : p ≤ 6) (g : inP p a) : ∃ i, i < p ∧ a = nI i := by
  obtain ⟨g1, g2⟩ := g
  obtain ⟨j, hj, rfl⟩ := nI_of (Int32.not_lt.mpr g1)
  rcases (show p = 0 ∨ 0 < p by omega) with rfl | h0
  · exfalso
    exact absurd (Int32.le_trans g1 g2) (by decide)
  · rw [show nI p - 1 = nI (p - 1) by rw [show p = p - 1 + 1 by omega, nI_pred, Nat.add_sub_cancel]] at g2
    have := (nI_leI hj (by omega)).mp g2
    exact ⟨j, by omega, rfl⟩
theorem inP_i {p i : Nat} (hp : p ≤ 6) (h : i < p) : inP p (nI i) := by
  refine ⟨nI_pos' (by omega), ?_⟩
  rw [show nI p - 1 = nI (p - 1) by rw [show p = p - 1 + 1 by omega, nI_pred, Nat.add_sub_cancel]]
  exact nI_le (by omega) (by omega)
theorem in9_eq (E : Env1) (M : Mem) (a b c : Int32) : f_X9_in E M a b c = if b ≤ a ∧ a ≤ c then 1 else 0 := (show f_X9_in E M a b c = f_X8_within E M a b c from rfl).trans (within_eq E M a b c)
theorem wi_t {a b c : Int32} (g : b ≤ a ∧ a ≤ c) : f_X8_within E M a b c = 1 := by rw [within_eq, if_pos g]
theorem wi_f {a b c : Int32} (g : ¬ (b ≤ a ∧ a ≤ c)) : f_X8_within E M a b c = 0 := by rw [within_eq, if_neg g]
theorem in_t {a b c : Int32} (g : b ≤ a ∧ a ≤ c) : f_X9_in E M a b c = 1 := by rw [in9_eq, if_pos g]
theorem in_f {a b c : Int32} (g : ¬ (b ≤ a ∧ a ≤ c)) : f_X9_in E M a b c = 0 := by rw [in9_eq, if_neg g]
theorem st8_t {a : Int32} (g : 0 ≤ a ∧ a ≤ 7) : f_X8_isStep E M a = 1 := wi_t g
theorem st8_f {a : Int32} (g : ¬ (0 ≤ a ∧ a ≤ 7)) : f_X8_isStep E M a = 0 := wi_f g
theorem st9_t {a : Int32} (g : 0 ≤ a ∧ a ≤ 7) : f_X9_isStep E M a = 1 := in_t g
theorem st9_f {a : Int32} (g : ¬ (0 ≤ a ∧ a ≤ 7)) : f_X9_isStep E M a = 0 := in_f g
theorem rg {a c : Int32} {n : Nat} (hc : c.toInt = n) (g : 0 ≤ a ∧ a ≤ c) : ∃ i, i ≤ n ∧ a = nI i := nI_of2 hc (Int32.not_lt.mpr g.1) g.2
theorem hasP_t {H : Nat} {a : Int32} (hp : p ≤ 6) (c : mi M (ad H) 0 = nI p) (g : inP p a) : f_X0_hasPerson E M (ad H) a = 1 := by
  unfold f_X0_hasPerson
  rw [c, wi_t g, if_neg (by decide)]
  obtain ⟨i, hi, rfl⟩ := inP_ex hp g
  rw [if_neg (lt6 (by omega))]
theorem hasP_f {H : Nat} {a : Int32} (c : mi M (ad H) 0 = nI p) (g : ¬ inP p a) : f_X0_hasPerson E M (ad H) a = 0 := by
  unfold f_X0_hasPerson
  rw [c, wi_f g, if_pos (by decide)]
theorem one_t {a : Int32} (c : mi M (ad 0) 1 = nI p) (g : inP p a) : f_X9_isOne E M (ad 0) a = 1 := by
  unfold f_X9_isOne
  rw [c]
  exact in_t g
theorem one_f {a : Int32} (c : mi M (ad 0) 1 = nI p) (g : ¬ inP p a) : f_X9_isOne E M (ad 0) a = 0 := by
  unfold f_X9_isOne
  rw [c]
  exact in_f g
theorem I10 : ¬ ((1 : Int32) = 0) := by decide
theorem I00 : (0 : Int32) = 0 := rfl
end Inv37
