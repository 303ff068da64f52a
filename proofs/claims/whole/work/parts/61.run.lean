/-! a whole text, as it is thought -/
section Al61
def tag (v : Nat) (x : Nat × Option (Nat × Nat × Nat)) : Nat × Option (Nat × Nat × Nat × Nat) := (x.1, x.2.map fun y => (v, y))
def itemP (B : Nat → Nat) (t P q : Nat) : Nat × Option (Nat × Nat × Nat × Nat) :=
  if wdI B t (sk B t q) = 1 then (if P = 6 then (sk B t q, none) else tag 1 (two B t 0 5 1 12 (rn B t 97 122 (sk B t q))))
  else if wdI B t (sk B t q) = 2 then tag 2 (two B t 0 (nI P - 1) 0 7 (rn B t 97 122 (sk B t q)))
  else if wdI B t (sk B t q) = 3 then tag 3 (one1 B t 0 6 (rn B t 97 122 (sk B t q)))
  else if wdI B t (sk B t q) = 4 then tag 4 (two B t 0 (nI P - 1) 0 8 (rn B t 97 122 (sk B t q)))
  else if wdI B t (sk B t q) = 5 then tag 5 (one1 B t 1 99 (rn B t 97 122 (sk B t q)))
  else (sk B t q, none)
def runP (B : Nat → Nat) (t : Nat) : Nat → Nat → Nat → Ho → Nat × Option (Nat × Ho)
  | 0, _, _, _ => (0, none)
  | n + 1, q, k, h => if t ≤ sk B t q then (0, some (k, h)) else match itemP B t (oP h) q with
    | (p, none) => (p, none)
    | (_, some (v, a, b, q')) => runP B t n q' (k + 1) (eff h v a b)
def numsP (B : Nat → Nat) (t : Nat) : Nat → Nat → (Nat → Nat) → Nat × Option ((Nat → Nat) × Nat)
  | 0, q, f => (0, some (f, q))
  | r + 1, q, f => match pn B t 0 5 q with
    | none => (sk B t q, none)
    | some (a, e) => numsP B t r e (upN f (7 - r) a)
def firstP (B : Nat → Nat) (t : Nat) : Nat × Option ((Nat → Nat) × Nat) :=
  if wdI B t (sk B t 0) = 0 then match numsP B t 8 (rn B t 97 122 (sk B t 0)) (fun _ => 0) with
    | (p, none) => (p, none)
    | (_, some (f, q)) => match en B t q with
      | none => (sk B t q, none)
      | some q' => (0, some (f, q'))
  else (sk B t 0, none)
variable {B : Nat → Nat} {t : Nat}
theorem pn_99 {lo hi : Int32} {q a e : Nat} (h : pn B t lo hi q = some (a, e)) : a ≤ 99 := by
  unfold pn at h
  split at h
  · rename_i g
    obtain ⟨rfl, -⟩ := Prod.mk.inj (Option.some.inj h)
    have d : ∀ j, sk B t q ≤ j → j < rn B t 48 57 (sk B t q) → B j ≤ 57 := fun j h1 h2 => (rnF_in _ _ _ _ _ _ j h1 h2).2.2
    have d0 := d (sk B t q) (Nat.le_refl _) (by omega)
    unfold nv
    by_cases e1 : rn B t 48 57 (sk B t q) - sk B t q = 1
    · rw [if_neg (by omega), if_pos e1]; omega
    · have d1 := d (sk B t q + 1) (by omega) (by omega)
      rw [if_neg (by omega), if_neg e1]; omega
  · cases h
theorem pn_N {lo hi : Int32} {n q a e : Nat} (hq : q ≤ t) (hh : hi = nI n) (hn : n < 2 ^ 31) (h : pn B t lo hi q = some (a, e)) : a ≤ n := by
  have h9 := pn_99 h
  obtain ⟨-, -, -, -, -, -, -, -, p⟩ := pn_some hq h
  rw [hh] at p
  exact (nI_leI (by omega) hn).mp p
theorem pn_P {P q a e : Nat} (hq : q ≤ t) (hP : P ≤ 6) (h : pn B t 0 (nI P - 1) q = some (a, e)) : a < P := by
  have h9 := pn_99 h
  obtain ⟨-, -, -, -, -, -, -, p1, p2⟩ := pn_some hq h
  obtain ⟨i, hi, e⟩ := inP_ex hP ⟨p1, p2⟩
  have := (nI_eq (by omega) (by omega)).mp e
  omega
theorem wdI_vals (B : Nat → Nat) (t s : Nat) : wdI B t s = -1 ∨ ∃ v, v < 6 ∧ wdI B t s = nI v := by
  unfold wdI
  (repeat' split) <;> first | exact Or.inl rfl | exact Or.inr ⟨0, by decide, rfl⟩ | exact Or.inr ⟨1, by decide, rfl⟩ | exact Or.inr ⟨2, by decide, rfl⟩ | exact Or.inr ⟨3, by decide, rfl⟩ | exact Or.inr ⟨4, by decide, rfl⟩ | exact Or.inr ⟨5, by decide, rfl⟩
variable {E : Env1} {ad : Nat → Nat} {M0 M M1 M2 Mt : Mem} {h h' : Ho} {pi : Nat → Nat}
/-! what settling makes of the house -/
theorem okS_crS {p : Nat} {s : Sd} {a : Nat} (ho : okS p s) (ha : a ≤ 6) : okS p (crS s a) := ⟨ho.1, or_lt (n := 7) ho.2.1 (Nat.pow_lt_pow_right (by decide) (by omega)), ho.2.2⟩
theorem okH_eff (ho : okH h) {v a b : Nat} (h1 : v = 1 → oP h < 6 ∧ a < 6 ∧ b ≤ 12) (h2 : v = 2 → a < oP h ∧ b < 8) (h3 : v = 3 → a ≤ 6) (h4 : v = 4 → a < oP h ∧ b ≤ 8) : okH (eff h v a b) := by
  unfold eff
  by_cases e1 : v = 1
  · rw [if_pos e1]; exact okH_add ho (h1 e1).1 (h1 e1).2.1 (h1 e1).2.2
  · rw [if_neg e1]
    by_cases e2 : v = 2
    · rw [if_pos e2]; exact okH_withS ho (okS_learn ho.1.2.2.2 (h2 e2).1 (h2 e2).2) ho.2.1
    · rw [if_neg e2]
      by_cases e3 : v = 3
      · rw [if_pos e3]; exact okH_withS ho (okS_crS ho.1.2.2.2 (h3 e3)) ho.2.1
      · rw [if_neg e3]
        by_cases e4 : v = 4
        · rw [if_pos e4]; exact okH_withS ho (okS_stay ho.1.2.2.2 (h4 e4).1 (by have := (h4 e4).2; omega)) ho.2.1
        · rw [if_neg e4]
          have := okS_passN a (oS h) ho.1.2.2.2 ho.2.1
          exact okH_withS ho this.1 this.2
theorem settle8 (hN : Nm E (ad 50) (ad 0) ad) (ho : okH h) {v a b : Nat} (hv : 1 ≤ v ∧ v < 6) (h1 : v = 1 → oP h < 6 ∧ a < 6 ∧ b ≤ 12) (h2 : v = 2 → a < oP h ∧ b < 8) (h3 : v = 3 → a ≤ 6) (h4 : v = 4 → a < oP h ∧ b ≤ 8) (h5 : v = 5 → a ≤ 99) (c : CH ad Mt 200 h pi) (m6 : mi Mt (ad 54) 6 = nI v) (m0 : mi Mt (ad 57) 0 = nI a) (m1 : v ≠ 3 → v ≠ 5 → mi Mt (ad 57) 1 = nI b) : ∃ M', f_X7_settle E Mt (ad 54) (ad 200) = some M' ∧ CH ad M' 200 (eff h v a b) pi ∧ Off ad Mt M' 200 216 := by
  have hI := hN.2.2.1
  have hH := hn_of hN (H := 200) (Or.inr (Or.inl rfl))
  have hS := sn_of hN (H := 200) (Or.inr (Or.inl rfl))
  have hp := ho.1.1
  unfold f_X7_settle eff
  rw [m6, n_57 hN, m0]
  rcases (show v = 1 ∨ v = 2 ∨ v = 3 ∨ v = 4 ∨ v = 5 by omega) with rfl | rfl | rfl | rfl | rfl
  · rw [m1 (by decide) (by decide), if_neg (by decide), if_pos (by decide), if_pos rfl]
    obtain ⟨M1, e, c1, o1⟩ := welcome_sp hI hH (k := a) (w := b) (h1 rfl).1 c
    rw [e]
    exact ⟨M1, rfl, c1, o1⟩
  · rw [m1 (by decide) (by decide), if_neg (by decide), if_neg (by decide), if_pos (by decide), if_neg (by decide), if_pos rfl, hH.2.2.1]
    obtain ⟨M1, e, c1, o1⟩ := learn_sp hI hS (i := a) (k := b) (by have := (h2 rfl).1; omega) (h2 rfl).2 c.1.2.2.2
    rw [e]
    exact ⟨M1, rfl, CH_withS ho.2.2.1 o1 c c1, o1.mono (by decide) (by decide)⟩
  · rw [if_neg (by decide), if_neg (by decide), if_neg (by decide), if_pos (by decide), if_neg (by decide), if_neg (by decide), if_pos rfl, hH.2.2.1, shl1 (by have := h3 rfl; omega), c.1.2.2.2.2.2.2.1, nI_or, nm_v]
    have o1 : Off ad Mt (wi Mt (ad (200 + 12)) 3 (nI (sC (oS h) ||| 2 ^ a))) (200 + 12) (200 + 16) := Off_wi hI _ (by omega)
    have d : ∀ n, n ≠ 212 → ∀ k, mi (wi Mt (ad (200 + 12)) 3 (nI (sC (oS h) ||| 2 ^ a))) (ad n) k = mi Mt (ad n) k := fun n hn k => by rw [mi_wi, if_neg (fun z => hn (hI _ _ z.1))]
    refine ⟨_, rfl, CH_withS ho.2.2.1 o1 c ⟨fun k hk => ?_, fun i hi => ?_, fun i hi => ?_, ?_, ?_⟩, o1.mono (by decide) (by decide)⟩
    · rw [d _ (by decide)]; exact c.1.2.2.2.1 k hk
    · rw [d _ (by decide)]; exact c.1.2.2.2.2.1 i hi
    · rw [d _ (by decide)]; exact c.1.2.2.2.2.2.1 i hi
    · rw [mi_wi, if_pos ⟨rfl, rfl⟩]; rfl
    · rw [mi_wi, if_neg (fun z => absurd z.2 (by decide))]; exact c.1.2.2.2.2.2.2.2
  · rw [m1 (by decide) (by decide), if_neg (by decide), if_neg (by decide), if_neg (by decide), if_neg (by decide), if_pos (by decide), if_neg (by decide), if_neg (by decide), if_neg (by decide), if_pos rfl, hH.2.2.1]
    obtain ⟨M1, e, c1, o1⟩ := stayAt_sp hI hS (i := a) (v := b) (by have := (h4 rfl).1; omega) c.1.2.2.2
    rw [e]
    exact ⟨M1, rfl, CH_withS ho.2.2.1 o1 c c1, o1.mono (by decide) (by decide)⟩
  · rw [if_neg (by decide), if_neg (by decide), if_neg (by decide), if_neg (by decide), if_neg (by decide), if_neg (by decide), if_neg (by decide), if_neg (by decide), if_neg (by decide), hH.2.2.1]
    obtain ⟨M1, e, c1, o1⟩ := passMinutes_sp hI hS (h5 rfl) ho.1.2.2.2 ho.2.1 c.1.2.2.2
    rw [e]
    exact ⟨M1, rfl, CH_withS ho.2.2.1 o1 c c1, o1.mono (by decide) (by decide)⟩
/-! an item of two numbers, of one -/
theorem two8 (hN : Nm E (ad 50) (ad 0) ad) (ho : okH h) {c q v k : Nat} {F : Nat → Nat → Ho} (hv : v < 6) (hn : nmW v = 2) (hc : c ≤ q) (hq : q ≤ t) (I : In8 ad M0 M B t q v 0 k h pi) (hset : ∀ a b e1 e2, pn B t (lowW v 0) (highW v 0 (oP h)) q = some (a, e1) → e1 ≤ t → pn B t (lowW v 1) (highW v 1 (oP h)) e1 = some (b, e2) → okH (F a b) ∧ ∀ Mt, CH ad Mt 200 h pi → mi Mt (ad 54) 6 = nI v → mi Mt (ad 57) 0 = nI a → mi Mt (ad 57) 1 = nI b → ∃ M', f_X7_settle E Mt (ad 54) (ad 200) = some M' ∧ CH ad M' 200 (F a b) pi ∧ Off ad Mt M' 200 216) : (∀ p, two B t (lowW v 0) (highW v 0 (oP h)) (lowW v 1) (highW v 1 (oP h)) q = (p, none) → ∃ M', Lc E ad c M = some (-10 - nI p, M') ∧ Fr8 ad M0 M') ∧ ∀ z a b q', two B t (lowW v 0) (highW v 0 (oP h)) (lowW v 1) (highW v 1 (oP h)) q = (z, some (a, b, q')) → ∃ M' c', Lc E ad c M = Lc E ad c' M' ∧ c' ≤ q' ∧ q < q' ∧ q' ≤ t ∧ okH (F a b) ∧ Be8 ad M0 M' B t q' (k + 1) (F a b) pi := by
  obtain ⟨s1, s2⟩ := num_step hN ho hv (by omega) hc hq I
  rcases two_cases (B := B) (t := t) (lowW v 0) (highW v 0 (oP h)) (lowW v 1) (highW v 1 (oP h)) q with ⟨p1, e⟩ | ⟨a, e1, p1, r⟩
  · rw [e]
    refine ⟨fun p hp => ?_, fun z a b q' hp => ?_⟩
    · obtain ⟨rfl, -⟩ := Prod.mk.inj hp
      exact s2 p1
    · have := (Prod.mk.inj hp).2; cases this
  · obtain ⟨-, -, -, -, -, l1, l2, -⟩ := pn_some hq p1
    obtain ⟨Ma, ea, Ia, na, ka⟩ := s1 a e1 p1
    obtain ⟨u1, u2⟩ := num_step hN ho hv (by omega) (show c + 1 ≤ e1 by omega) l2 Ia
    rcases r with ⟨p2, e⟩ | ⟨b, e2, p2, r⟩
    · rw [e]
      refine ⟨fun p hp => ?_, fun z a b q' hp => ?_⟩
      · obtain ⟨rfl, -⟩ := Prod.mk.inj hp
        rw [ea]
        exact u2 p2
      · have := (Prod.mk.inj hp).2; cases this
    · obtain ⟨-, -, -, -, -, l3, l4, -⟩ := pn_some l2 p2
      obtain ⟨Mb, eb, Ib, nb, kb⟩ := u1 b e2 p2
      obtain ⟨okF, hs⟩ := hset a b e1 e2 p1 l2 p2
      rw [show 0 + 1 + 1 = nmW v by omega] at Ib
      obtain ⟨x1, x2⟩ := end_step (h' := F a b) hN ho okF hv (show c + 1 + 1 ≤ e2 by omega) l4 Ib (fun Mt ct m6 mj => hs Mt ct m6 ((mj 0).trans ((kb 0 (by decide)).trans na)) ((mj 1).trans nb))
      rcases r with ⟨p3, e⟩ | ⟨q', p3, e⟩
      · rw [e]
        refine ⟨fun p hp => ?_, fun z a b q' hp => ?_⟩
        · obtain ⟨rfl, -⟩ := Prod.mk.inj hp
          rw [ea, eb]
          exact x2 p3
        · have := (Prod.mk.inj hp).2; cases this
      · rw [e]
        refine ⟨fun p hp => ?_, fun z a' b' q'' hp => ?_⟩
        · have := (Prod.mk.inj hp).2; cases this
        · have hp1 := Option.some.inj (Prod.mk.inj hp).2
          have ha := (Prod.mk.inj hp1).1
          have hp2 := (Prod.mk.inj hp1).2
          have hb := (Prod.mk.inj hp2).1
          have hq2 := (Prod.mk.inj hp2).2
          subst ha
          subst hb
          subst hq2
          obtain ⟨Mc, ec, bc⟩ := x1 _ p3
          obtain ⟨g1, rfl⟩ := en_some p3
          have := sk_ge B t e2
          exact ⟨Mc, _, by rw [ea, eb, ec], by omega, by omega, by omega, okF, bc⟩
theorem one8 (hN : Nm E (ad 50) (ad 0) ad) (ho : okH h) {c q v k : Nat} {F : Nat → Nat → Ho} (hv : v < 6) (hn : nmW v = 1) (hc : c ≤ q) (hq : q ≤ t) (I : In8 ad M0 M B t q v 0 k h pi) (hset : ∀ a e1, pn B t (lowW v 0) (highW v 0 (oP h)) q = some (a, e1) → okH (F a 0) ∧ ∀ Mt, CH ad Mt 200 h pi → mi Mt (ad 54) 6 = nI v → mi Mt (ad 57) 0 = nI a → ∃ M', f_X7_settle E Mt (ad 54) (ad 200) = some M' ∧ CH ad M' 200 (F a 0) pi ∧ Off ad Mt M' 200 216) : (∀ p, one1 B t (lowW v 0) (highW v 0 (oP h)) q = (p, none) → ∃ M', Lc E ad c M = some (-10 - nI p, M') ∧ Fr8 ad M0 M') ∧ ∀ z a b q', one1 B t (lowW v 0) (highW v 0 (oP h)) q = (z, some (a, b, q')) → ∃ M' c', Lc E ad c M = Lc E ad c' M' ∧ c' ≤ q' ∧ q < q' ∧ q' ≤ t ∧ okH (F a b) ∧ Be8 ad M0 M' B t q' (k + 1) (F a b) pi := by
  obtain ⟨s1, s2⟩ := num_step hN ho hv (by omega) hc hq I
  rcases one_cases (B := B) (t := t) (lowW v 0) (highW v 0 (oP h)) q with ⟨p1, e⟩ | ⟨a, e1, p1, r⟩
  · rw [e]
    refine ⟨fun p hp => ?_, fun z a b q' hp => ?_⟩
    · obtain ⟨rfl, -⟩ := Prod.mk.inj hp
      exact s2 p1
    · have := (Prod.mk.inj hp).2; cases this
  · obtain ⟨-, -, -, -, -, l1, l2, -⟩ := pn_some hq p1
    obtain ⟨Ma, ea, Ia, na, ka⟩ := s1 a e1 p1
    obtain ⟨okF, hs⟩ := hset a e1 p1
    rw [show 0 + 1 = nmW v by omega] at Ia
    obtain ⟨x1, x2⟩ := end_step (h' := F a 0) hN ho okF hv (show c + 1 ≤ e1 by omega) l2 Ia (fun Mt ct m6 mj => hs Mt ct m6 ((mj 0).trans na))
    rcases r with ⟨p3, e⟩ | ⟨q', p3, e⟩
    · rw [e]
      refine ⟨fun p hp => ?_, fun z a b q' hp => ?_⟩
      · obtain ⟨rfl, -⟩ := Prod.mk.inj hp
        rw [ea]
        exact x2 p3
      · have := (Prod.mk.inj hp).2; cases this
    · rw [e]
      refine ⟨fun p hp => ?_, fun z a' b' q'' hp => ?_⟩
      · have := (Prod.mk.inj hp).2; cases this
      · have hp1 := Option.some.inj (Prod.mk.inj hp).2
        have ha := (Prod.mk.inj hp1).1
        have hp2 := (Prod.mk.inj hp1).2
        have hb := (Prod.mk.inj hp2).1
        have hq2 := (Prod.mk.inj hp2).2
        subst ha
        subst hb
        subst hq2
        obtain ⟨Mc, ec, bc⟩ := x1 _ p3
        obtain ⟨g1, rfl⟩ := en_some p3
        have := sk_ge B t e1
        exact ⟨Mc, _, by rw [ea, ec], by omega, by omega, by omega, okF, bc⟩
theorem tag_n {v : Nat} {x : Nat × Option (Nat × Nat × Nat)} {p : Nat} (h : tag v x = (p, none)) : x = (p, none) := by
  obtain ⟨y, z⟩ := x
  obtain ⟨h1, h2⟩ := Prod.mk.inj h
  cases z with
  | none => exact congrArg (fun r => (r, none)) h1
  | some z => cases h2
theorem tag_s {v : Nat} {x : Nat × Option (Nat × Nat × Nat)} {p v' a b q : Nat} (h : tag v x = (p, some (v', a, b, q))) : v' = v ∧ x = (p, some (a, b, q)) := by
  obtain ⟨y, z⟩ := x
  obtain ⟨h1, h2⟩ := Prod.mk.inj h
  cases z with
  | none => cases h2
  | some z =>
    have h3 := Option.some.inj h2
    obtain ⟨h4, h5⟩ := Prod.mk.inj h3
    refine ⟨h4.symm, ?_⟩
    rw [h5]
    exact congrArg (fun r => (r, some (a, b, q))) h1
theorem item8 (hN : Nm E (ad 50) (ad 0) ad) (ho : okH h) {c q k : Nat} (hk0 : 0 < k) (hk : k < 1000) (hc : c ≤ q) (hq : q ≤ t) (ht : ¬ t ≤ sk B t q) (I : Be8 ad M0 M B t q k h pi) : (∀ p, itemP B t (oP h) q = (p, none) → ∃ M', Lc E ad c M = some (-10 - nI p, M') ∧ Fr8 ad M0 M') ∧ ∀ z v a b q', itemP B t (oP h) q = (z, some (v, a, b, q')) → ∃ M' c', Lc E ad c M = Lc E ad c' M' ∧ c' ≤ q' ∧ q < q' ∧ q' ≤ t ∧ okH (eff h v a b) ∧ Be8 ad M0 M' B t q' (k + 1) (eff h v a b) pi := by
  obtain ⟨-, b2, b3⟩ := beg_step hN ho hk hc hq I
  have hp := ho.1.1
  have hsk := sk_ge B t q
  have fault : itemP B t (oP h) q = (sk B t q, none) → (∃ M', Lc E ad c M = some (-10 - nI (sk B t q), M') ∧ Fr8 ad M0 M') → (∀ p, itemP B t (oP h) q = (p, none) → ∃ M', Lc E ad c M = some (-10 - nI p, M') ∧ Fr8 ad M0 M') ∧ ∀ z v a b q', itemP B t (oP h) q = (z, some (v, a, b, q')) → ∃ M' c', Lc E ad c M = Lc E ad c' M' ∧ c' ≤ q' ∧ q < q' ∧ q' ≤ t ∧ okH (eff h v a b) ∧ Be8 ad M0 M' B t q' (k + 1) (eff h v a b) pi := fun e f => by
    rw [e]
    refine ⟨fun p hp => ?_, fun z v a b q' hp => ?_⟩
    · obtain ⟨rfl, -⟩ := Prod.mk.inj hp
      exact f
    · have := (Prod.mk.inj hp).2; cases this
  have go : ∀ v, wdI B t (sk B t q) = nI v → v < 6 → 1 ≤ v → ¬ (v = 1 ∧ oP h = 6) → ∃ M', Lc E ad c M = Lc E ad (c + 1) M' ∧ In8 ad M0 M' B t (rn B t 97 122 (sk B t q)) v 0 k h pi ∧ q < rn B t 97 122 (sk B t q) ∧ rn B t 97 122 (sk B t q) ≤ t := fun v hw hv h1 hn => by
    obtain ⟨M', e, I'⟩ := b2 v hw hv ⟨fun z => by omega, fun z => by omega⟩ hn
    obtain ⟨-, -, -, -, l⟩ := tok_word (B := B) (t := t) (s := sk B t q) (by rw [hw]; exact nIm1 (by omega))
    exact ⟨M', e, I', by omega, rnF_le _ _ _ _ _ _ (sk_le hq)⟩
  have lift : ∀ (v : Nat) (x : Nat × Option (Nat × Nat × Nat)) (M' : Mem) (q1 : Nat), itemP B t (oP h) q = tag v x → Lc E ad c M = Lc E ad (c + 1) M' → q < q1 → ((∀ p, x = (p, none) → ∃ M'', Lc E ad (c + 1) M' = some (-10 - nI p, M'') ∧ Fr8 ad M0 M'') ∧ ∀ z a b q', x = (z, some (a, b, q')) → ∃ M'' c', Lc E ad (c + 1) M' = Lc E ad c' M'' ∧ c' ≤ q' ∧ q1 < q' ∧ q' ≤ t ∧ okH (eff h v a b) ∧ Be8 ad M0 M'' B t q' (k + 1) (eff h v a b) pi) → (∀ p, itemP B t (oP h) q = (p, none) → ∃ M', Lc E ad c M = some (-10 - nI p, M') ∧ Fr8 ad M0 M') ∧ ∀ z v a b q', itemP B t (oP h) q = (z, some (v, a, b, q')) → ∃ M' c', Lc E ad c M = Lc E ad c' M' ∧ c' ≤ q' ∧ q < q' ∧ q' ≤ t ∧ okH (eff h v a b) ∧ Be8 ad M0 M' B t q' (k + 1) (eff h v a b) pi := fun v x M' q1 e1 e2 hl r => by
    rw [e1, e2]
    refine ⟨fun p hp => r.1 p (tag_n hp), fun z v' a b q' hp => ?_⟩
    obtain ⟨rfl, hx⟩ := tag_s hp
    obtain ⟨M'', c', r1, r2, r3, r4, r5, r6⟩ := r.2 z a b q' hx
    exact ⟨M'', c', r1, r2, by omega, r4, r5, r6⟩
  have iv : ∀ {v}, v < 6 → ∀ u, u < 6 → (nI v = nI u) = (v = u) := fun hv u hu => nIe (by omega) (by omega)
  rcases wdI_vals B t (sk B t q) with hw | ⟨v, hv, hw⟩
  · refine fault ?_ (b3 (Or.inr ht) (Or.inl hw))
    unfold itemP
    rw [hw, if_neg (by decide), if_neg (by decide), if_neg (by decide), if_neg (by decide), if_neg (by decide)]
  · rcases (show v = 0 ∨ v = 1 ∨ v = 2 ∨ v = 3 ∨ v = 4 ∨ v = 5 by omega) with rfl | rfl | rfl | rfl | rfl | rfl
    · refine fault ?_ (b3 (Or.inr ht) (Or.inr ⟨0, by decide, hw, Or.inl (fun z => by have := z.mp rfl; omega)⟩))
      unfold itemP
      rw [hw, if_neg (by decide), if_neg (by decide), if_neg (by decide), if_neg (by decide), if_neg (by decide)]
    · by_cases hP : oP h = 6
      · refine fault ?_ (b3 (Or.inr ht) (Or.inr ⟨1, by decide, hw, Or.inr ⟨rfl, hP⟩⟩))
        unfold itemP
        rw [hw, if_pos (by decide), if_pos hP]
      · obtain ⟨M', e, I', l1, l2⟩ := go 1 hw (by decide) (by decide) (fun z => hP z.2)
        refine lift 1 _ M' _ ?_ e l1 (two8 (F := fun a b => eff h 1 a b) hN ho (by decide) (by decide) (by omega) l2 I' (fun a b e1 e2 p1 p2 p3 => ?_))
        · unfold itemP
          rw [hw, if_pos (by decide), if_neg hP]
          rfl
        · have ra := pn_N (n := 5) l2 rfl (by decide) p1
          have rb := pn_N (n := 12) p2 rfl (by decide) p3
          have c1 : 1 = 1 → oP h < 6 ∧ a < 6 ∧ b ≤ 12 := fun _ => ⟨by omega, by omega, rb⟩
          exact ⟨okH_eff ho c1 (fun z => absurd z (by decide)) (fun z => absurd z (by decide)) (fun z => absurd z (by decide)), fun Mt ct m6 m0 m1 => settle8 hN ho (by decide) c1 (fun z => absurd z (by decide)) (fun z => absurd z (by decide)) (fun z => absurd z (by decide)) (fun z => absurd z (by decide)) ct m6 m0 (fun _ _ => m1)⟩
    · obtain ⟨M', e, I', l1, l2⟩ := go 2 hw (by decide) (by decide) (fun z => absurd z.1 (by decide))
      refine lift 2 _ M' _ ?_ e l1 (two8 (F := fun a b => eff h 2 a b) hN ho (by decide) (by decide) (by omega) l2 I' (fun a b e1 e2 p1 p2 p3 => ?_))
      · unfold itemP
        rw [hw, if_neg (by decide), if_pos (by decide)]
        rfl
      · have ra := pn_P l2 hp p1
        have rb := pn_N (n := 7) p2 rfl (by decide) p3
        have c2 : 2 = 2 → a < oP h ∧ b < 8 := fun _ => ⟨ra, by omega⟩
        exact ⟨okH_eff ho (fun z => absurd z (by decide)) c2 (fun z => absurd z (by decide)) (fun z => absurd z (by decide)), fun Mt ct m6 m0 m1 => settle8 hN ho (by decide) (fun z => absurd z (by decide)) c2 (fun z => absurd z (by decide)) (fun z => absurd z (by decide)) (fun z => absurd z (by decide)) ct m6 m0 (fun _ _ => m1)⟩
    · obtain ⟨M', e, I', l1, l2⟩ := go 3 hw (by decide) (by decide) (fun z => absurd z.1 (by decide))
      refine lift 3 _ M' _ ?_ e l1 (one8 (F := fun a b => eff h 3 a b) hN ho (by decide) (by decide) (by omega) l2 I' (fun a e1 p1 => ?_))
      · unfold itemP
        rw [hw, if_neg (by decide), if_neg (by decide), if_pos (by decide)]
        rfl
      · have ra := pn_N (n := 6) l2 rfl (by decide) p1
        exact ⟨okH_eff ho (fun z => absurd z (by decide)) (fun z => absurd z (by decide)) (fun _ => ra) (fun z => absurd z (by decide)), fun Mt ct m6 m0 => settle8 hN ho (by decide) (fun z => absurd z (by decide)) (fun z => absurd z (by decide)) (fun _ => ra) (fun z => absurd z (by decide)) (fun z => absurd z (by decide)) ct m6 m0 (fun z => absurd rfl z)⟩
    · obtain ⟨M', e, I', l1, l2⟩ := go 4 hw (by decide) (by decide) (fun z => absurd z.1 (by decide))
      refine lift 4 _ M' _ ?_ e l1 (two8 (F := fun a b => eff h 4 a b) hN ho (by decide) (by decide) (by omega) l2 I' (fun a b e1 e2 p1 p2 p3 => ?_))
      · unfold itemP
        rw [hw, if_neg (by decide), if_neg (by decide), if_neg (by decide), if_pos (by decide)]
        rfl
      · have ra := pn_P l2 hp p1
        have rb := pn_N (n := 8) p2 rfl (by decide) p3
        have c4 : 4 = 4 → a < oP h ∧ b ≤ 8 := fun _ => ⟨ra, rb⟩
        exact ⟨okH_eff ho (fun z => absurd z (by decide)) (fun z => absurd z (by decide)) (fun z => absurd z (by decide)) c4, fun Mt ct m6 m0 m1 => settle8 hN ho (by decide) (fun z => absurd z (by decide)) (fun z => absurd z (by decide)) (fun z => absurd z (by decide)) c4 (fun z => absurd z (by decide)) ct m6 m0 (fun _ _ => m1)⟩
    · obtain ⟨M', e, I', l1, l2⟩ := go 5 hw (by decide) (by decide) (fun z => absurd z.1 (by decide))
      refine lift 5 _ M' _ ?_ e l1 (one8 (F := fun a b => eff h 5 a b) hN ho (by decide) (by decide) (by omega) l2 I' (fun a e1 p1 => ?_))
      · unfold itemP
        rw [hw, if_neg (by decide), if_neg (by decide), if_neg (by decide), if_neg (by decide), if_pos (by decide)]
        rfl
      · have ra := pn_99 p1
        exact ⟨okH_eff ho (fun z => absurd z (by decide)) (fun z => absurd z (by decide)) (fun z => absurd z (by decide)) (fun z => absurd z (by decide)), fun Mt ct m6 m0 => settle8 hN ho (by decide) (fun z => absurd z (by decide)) (fun z => absurd z (by decide)) (fun z => absurd z (by decide)) (fun z => absurd z (by decide)) (fun _ => ra) ct m6 m0 (fun _ z => absurd rfl z)⟩
theorem runs8 (hN : Nm E (ad 50) (ad 0) ad) : ∀ n q k c (M : Mem) (h : Ho), t - q < n → q ≤ t → c ≤ q → 0 < k → k ≤ q → t ≤ 150 → okH h → Be8 ad M0 M B t q k h pi → (∀ p, runP B t n q k h = (p, none) → ∃ M', Lc E ad c M = some (-10 - nI p, M') ∧ Fr8 ad M0 M') ∧ ∀ z k' h', runP B t n q k h = (z, some (k', h')) → ∃ M', Lc E ad c M = some (nI k', M') ∧ 0 < k' ∧ k' ≤ 150 ∧ okH h' ∧ CH ad M' 200 h' pi ∧ Fr8 ad M0 M' := by
  intro n
  induction n with
  | zero => intro q k c M h hn; omega
  | succ n ih =>
    intro q k c M h hn hq hc hk0 hkq ht ho I
    unfold runP
    by_cases l : t ≤ sk B t q
    · rw [if_pos l]
      refine ⟨fun p hp => ?_, fun z k' h' hp => ?_⟩
      · have := (Prod.mk.inj hp).2; cases this
      · obtain ⟨rfl, rfl⟩ := Prod.mk.inj (Option.some.inj (Prod.mk.inj hp).2)
        obtain ⟨M', e, c', f'⟩ := (beg_step hN ho (by omega) hc hq I).1 hk0 l
        exact ⟨M', e, hk0, by omega, ho, c', f'⟩
    · rw [if_neg l]
      obtain ⟨i1, i2⟩ := item8 hN ho hk0 (by omega) hc hq l I
      cases e : itemP B t (oP h) q with
      | mk z x =>
        cases x with
        | none =>
          refine ⟨fun p hp => ?_, fun z k' h' hp => ?_⟩
          · obtain ⟨rfl, -⟩ := Prod.mk.inj hp
            exact i1 _ e
          · have := (Prod.mk.inj hp).2; cases this
        | some y =>
          obtain ⟨v, a, b, q'⟩ := y
          obtain ⟨M', c', e1, e2, e3, e4, e5, e6⟩ := i2 z v a b q' e
          dsimp only
          rw [e1]
          exact ih q' (k + 1) c' M' (eff h v a b) (by omega) e4 e2 (by omega) (by omega) ht e5 e6
end Al61
