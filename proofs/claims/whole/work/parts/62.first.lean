/-! the first item, the whole text -/
section Al62
variable {B : Nat → Nat} {t : Nat}
def kh (f : Nat → Nat) : Ho := withS (newH ho0) (kdS newS f)
def fullP (B : Nat → Nat) (t : Nat) : Nat × Option (Nat × Ho) :=
  match firstP B t with
  | (p, none) => (p, none)
  | (_, some (f, q)) => runP B t 151 q 1 (kh f)
theorem okH_kh {f : Nat → Nat} (hf : ∀ j, f j < 6) : okH (kh f) := okH_withS (okH_new ho0) ⟨(okS_new 0).1, (okS_new 0).2.1, fun k _ => hf k, (okS_new 0).2.2.2⟩ (by show 0 ≤ 9999; omega)
/-! a fault lies in the text -/
theorem two_p {l1 h1 l2 h2 : Int32} {q p : Nat} (hq : q ≤ t) (h : two B t l1 h1 l2 h2 q = (p, none)) : p ≤ t := by
  rcases two_cases (B := B) (t := t) l1 h1 l2 h2 q with ⟨p1, e⟩ | ⟨a, e1, p1, r⟩
  · rw [e] at h; rw [← (Prod.mk.inj h).1]; exact sk_le hq
  · obtain ⟨-, -, -, -, -, -, g1, -⟩ := pn_some hq p1
    rcases r with ⟨p2, e⟩ | ⟨b, e2, p2, r⟩
    · rw [e] at h; rw [← (Prod.mk.inj h).1]; exact sk_le g1
    · obtain ⟨-, -, -, -, -, -, g2, -⟩ := pn_some g1 p2
      rcases r with ⟨p3, e⟩ | ⟨q', p3, e⟩
      · rw [e] at h; rw [← (Prod.mk.inj h).1]; exact sk_le g2
      · rw [e] at h; have := (Prod.mk.inj h).2; cases this
theorem one_p {l1 h1 : Int32} {q p : Nat} (hq : q ≤ t) (h : one1 B t l1 h1 q = (p, none)) : p ≤ t := by
  rcases one_cases (B := B) (t := t) l1 h1 q with ⟨p1, e⟩ | ⟨a, e1, p1, r⟩
  · rw [e] at h; rw [← (Prod.mk.inj h).1]; exact sk_le hq
  · obtain ⟨-, -, -, -, -, -, g1, -⟩ := pn_some hq p1
    rcases r with ⟨p3, e⟩ | ⟨q', p3, e⟩
    · rw [e] at h; rw [← (Prod.mk.inj h).1]; exact sk_le g1
    · rw [e] at h; have := (Prod.mk.inj h).2; cases this
theorem two_q {l1 h1 l2 h2 : Int32} {q p a b q' : Nat} (hq : q ≤ t) (h : two B t l1 h1 l2 h2 q = (p, some (a, b, q'))) : q < q' ∧ q' ≤ t ∧ ∃ e1 e2, pn B t l1 h1 q = some (a, e1) ∧ e1 ≤ t ∧ q < e1 ∧ pn B t l2 h2 e1 = some (b, e2) ∧ e2 ≤ t ∧ e1 < e2 ∧ en B t e2 = some q' := by
  rcases two_cases (B := B) (t := t) l1 h1 l2 h2 q with ⟨p1, e⟩ | ⟨a', e1, p1, r⟩
  · rw [e] at h; have := (Prod.mk.inj h).2; cases this
  · obtain ⟨-, -, -, -, -, g0, g1, -⟩ := pn_some hq p1
    rcases r with ⟨p2, e⟩ | ⟨b', e2, p2, r⟩
    · rw [e] at h; have := (Prod.mk.inj h).2; cases this
    · obtain ⟨-, -, -, -, -, g2, g3, -⟩ := pn_some g1 p2
      rcases r with ⟨p3, e⟩ | ⟨q'', p3, e⟩
      · rw [e] at h; have := (Prod.mk.inj h).2; cases this
      · rw [e] at h
        have hp1 := Option.some.inj (Prod.mk.inj h).2
        have ha := (Prod.mk.inj hp1).1
        have hp2 := (Prod.mk.inj hp1).2
        have hb := (Prod.mk.inj hp2).1
        have hq2 := (Prod.mk.inj hp2).2
        subst ha
        subst hb
        subst hq2
        obtain ⟨k1, k2⟩ := en_some p3
        have := sk_ge B t e2
        exact ⟨by omega, by omega, e1, e2, p1, g1, g0, p2, g3, g2, p3⟩
theorem one_q {l1 h1 : Int32} {q p a b q' : Nat} (hq : q ≤ t) (h : one1 B t l1 h1 q = (p, some (a, b, q'))) : q < q' ∧ q' ≤ t ∧ b = 0 ∧ ∃ e1, pn B t l1 h1 q = some (a, e1) ∧ e1 ≤ t ∧ q < e1 ∧ en B t e1 = some q' := by
  rcases one_cases (B := B) (t := t) l1 h1 q with ⟨p1, e⟩ | ⟨a', e1, p1, r⟩
  · rw [e] at h; have := (Prod.mk.inj h).2; cases this
  · obtain ⟨-, -, -, -, -, g0, g1, -⟩ := pn_some hq p1
    rcases r with ⟨p3, e⟩ | ⟨q'', p3, e⟩
    · rw [e] at h; have := (Prod.mk.inj h).2; cases this
    · rw [e] at h
      have hp1 := Option.some.inj (Prod.mk.inj h).2
      have ha := (Prod.mk.inj hp1).1
      have hp2 := (Prod.mk.inj hp1).2
      have hb := (Prod.mk.inj hp2).1
      have hq2 := (Prod.mk.inj hp2).2
      subst ha
      subst hb
      subst hq2
      obtain ⟨k1, k2⟩ := en_some p3
      have := sk_ge B t e1
      exact ⟨by omega, by omega, rfl, e1, p1, g1, g0, p3⟩
theorem item_p {P q p : Nat} (hq : q ≤ t) (h : itemP B t P q = (p, none)) : p ≤ t := by
  have hs : sk B t q ≤ t := sk_le hq
  have he : rn B t 97 122 (sk B t q) ≤ t := rnF_le _ _ _ _ _ _ hs
  have z : ∀ {p}, (sk B t q, (none : Option (Nat × Nat × Nat × Nat))) = (p, none) → p ≤ t := fun h => by rw [← (Prod.mk.inj h).1]; exact hs
  unfold itemP at h
  split at h
  · split at h
    · exact z h
    · exact two_p he (tag_n h)
  · split at h
    · exact two_p he (tag_n h)
    · split at h
      · exact one_p he (tag_n h)
      · split at h
        · exact two_p he (tag_n h)
        · split at h
          · exact one_p he (tag_n h)
          · exact z h
theorem item_q {P q p v a b q' : Nat} (hq : q ≤ t) (h : itemP B t P q = (p, some (v, a, b, q'))) : q < q' ∧ q' ≤ t := by
  have hs : sk B t q ≤ t := sk_le hq
  have h1 := sk_ge B t q
  have h2 : sk B t q ≤ rn B t 97 122 (sk B t q) := rnF_ge _ _ _ _ _ _
  have he : rn B t 97 122 (sk B t q) ≤ t := rnF_le _ _ _ _ _ _ hs
  unfold itemP at h
  split at h
  · split at h
    · have := (Prod.mk.inj h).2; cases this
    · have := two_q he (tag_s h).2; exact ⟨by omega, this.2.1⟩
  · split at h
    · have := two_q he (tag_s h).2; exact ⟨by omega, this.2.1⟩
    · split at h
      · have := one_q he (tag_s h).2; exact ⟨by omega, this.2.1⟩
      · split at h
        · have := two_q he (tag_s h).2; exact ⟨by omega, this.2.1⟩
        · split at h
          · have := one_q he (tag_s h).2; exact ⟨by omega, this.2.1⟩
          · have := (Prod.mk.inj h).2; cases this
theorem run_p : ∀ n q k (h : Ho) {p : Nat}, q ≤ t → runP B t n q k h = (p, none) → p ≤ t := by
  intro n
  induction n with
  | zero =>
    intro q k h p hq e
    have : (0, (none : Option (Nat × Ho))) = (p, none) := e
    rw [← (Prod.mk.inj this).1]
    exact Nat.zero_le _
  | succ n ih =>
    intro q k h p hq e
    unfold runP at e
    split at e
    · have := (Prod.mk.inj e).2; cases this
    · split at e
      · rename_i q' e'
        obtain ⟨rfl, -⟩ := Prod.mk.inj e
        exact item_p hq e'
      · rename_i z v a b q' e'
        exact ih _ _ _ (item_q hq e').2 e
theorem nums_q : ∀ r q f, q ≤ t → (∀ p, numsP B t r q f = (p, none) → p ≤ t) ∧ ∀ p f' q', numsP B t r q f = (p, some (f', q')) → q ≤ q' ∧ q' ≤ t := by
  intro r
  induction r with
  | zero =>
    intro q f hq
    refine ⟨fun p hp => ?_, fun p f' q' hp => ?_⟩
    · have := (Prod.mk.inj hp).2; cases this
    · obtain ⟨rfl, rfl⟩ := Prod.mk.inj (Option.some.inj (Prod.mk.inj hp).2)
      exact ⟨Nat.le_refl _, hq⟩
  | succ r ih =>
    intro q f hq
    unfold numsP
    cases e : pn B t 0 5 q with
    | none =>
      refine ⟨fun p hp => ?_, fun p f' q' hp => ?_⟩
      · rw [← (Prod.mk.inj hp).1]; exact sk_le hq
      · have := (Prod.mk.inj hp).2; cases this
    | some y =>
      obtain ⟨a, e1⟩ := y
      obtain ⟨-, -, -, -, -, g0, g1, -⟩ := pn_some hq e
      obtain ⟨i1, i2⟩ := ih e1 (upN f (7 - r) a) g1
      exact ⟨i1, fun p f' q' hp => by have := i2 p f' q' hp; exact ⟨by omega, this.2⟩⟩
theorem first_q : (∀ p, firstP B t = (p, none) → p ≤ t) ∧ ∀ p f q, firstP B t = (p, some (f, q)) → 0 < q ∧ q ≤ t := by
  have hs : sk B t 0 ≤ t := sk_le (Nat.zero_le _)
  have he : rn B t 97 122 (sk B t 0) ≤ t := rnF_le _ _ _ _ _ _ hs
  obtain ⟨n1, n2⟩ := nums_q (B := B) 8 (rn B t 97 122 (sk B t 0)) (fun _ => 0) he
  unfold firstP
  by_cases e0 : wdI B t (sk B t 0) = 0
  · rw [if_pos e0]
    cases e : numsP B t 8 (rn B t 97 122 (sk B t 0)) (fun _ => 0) with
    | mk z x =>
      cases x with
      | none =>
        refine ⟨fun p hp => ?_, fun p f' q' hp => ?_⟩
        · have hp : (z, (none : Option ((Nat → Nat) × Nat))) = (p, none) := hp
          obtain ⟨rfl, -⟩ := Prod.mk.inj hp
          exact n1 _ e
        · have := (Prod.mk.inj hp).2; cases this
      | some y =>
        obtain ⟨f, q⟩ := y
        have hq := n2 _ _ _ e
        dsimp only
        cases e3 : en B t q with
        | none =>
          refine ⟨fun p hp => ?_, fun p f' q' hp => ?_⟩
          · rw [← (Prod.mk.inj hp).1]; exact sk_le hq.2
          · have := (Prod.mk.inj hp).2; cases this
        | some q' =>
          refine ⟨fun p hp => ?_, fun p f' q'' hp => ?_⟩
          · have := (Prod.mk.inj hp).2; cases this
          · obtain ⟨rfl, rfl⟩ := Prod.mk.inj (Option.some.inj (Prod.mk.inj hp).2)
            obtain ⟨g1, g2⟩ := en_some e3
            omega
  · rw [if_neg e0]
    refine ⟨fun p hp => ?_, fun p f' q' hp => ?_⟩
    · rw [← (Prod.mk.inj hp).1]; exact hs
    · have := (Prod.mk.inj hp).2; cases this
theorem full_p {p : Nat} (h : fullP B t = (p, none)) : p ≤ t := by
  obtain ⟨f1, f2⟩ := first_q (B := B) (t := t)
  unfold fullP at h
  split at h
  · rename_i p' e
    obtain ⟨rfl, -⟩ := Prod.mk.inj h
    exact f1 _ e
  · rename_i z f q e
    exact run_p _ _ _ _ (f2 _ _ _ e).2 h
/-! the class's first item -/
variable {E : Env1} {ad : Nat → Nat} {M0 M M1 M2 Mt : Mem} {h h' : Ho} {pi : Nat → Nat}
theorem nums8 (hN : Nm E (ad 50) (ad 0) ad) (ho : okH h) {k : Nat} : ∀ r q f c (M : Mem), r ≤ 8 → q ≤ t → c ≤ q → In8 ad M0 M B t q 0 (8 - r) k h pi → (∀ j, j < 8 - r → mi M (ad 57) j = nI (f j)) → (∀ j, f j < 6) → (∀ p, numsP B t r q f = (p, none) → ∃ M', Lc E ad c M = some (-10 - nI p, M') ∧ Fr8 ad M0 M') ∧ ∀ z f' q', numsP B t r q f = (z, some (f', q')) → ∃ M' c', Lc E ad c M = Lc E ad c' M' ∧ c' ≤ q' ∧ q' ≤ t ∧ In8 ad M0 M' B t q' 0 8 k h pi ∧ (∀ j, j < 8 → mi M' (ad 57) j = nI (f' j)) ∧ ∀ j, f' j < 6 := by
  intro r
  induction r with
  | zero =>
    intro q f c M _ hq hc I hf hf6
    refine ⟨fun p hp => ?_, fun z f' q' hp => ?_⟩
    · have := (Prod.mk.inj hp).2; cases this
    · obtain ⟨rfl, rfl⟩ := Prod.mk.inj (Option.some.inj (Prod.mk.inj hp).2)
      exact ⟨M, c, rfl, hc, hq, I, hf, hf6⟩
  | succ r ih =>
    intro q f c M hr hq hc I hf hf6
    have e8 : 8 - (r + 1) = 7 - r := by omega
    rw [e8] at I hf
    obtain ⟨s1, s2⟩ := num_step hN ho (v := 0) (by decide) (show 7 - r < nmW 0 by show 7 - r < 8; omega) hc hq I
    unfold numsP
    have e0 : pn B t (lowW 0 (7 - r)) (highW 0 (7 - r) (oP h)) q = pn B t 0 5 q := rfl
    rw [e0] at s1 s2
    cases e : pn B t 0 5 q with
    | none =>
      refine ⟨fun p hp => ?_, fun z f' q' hp => ?_⟩
      · obtain ⟨rfl, -⟩ := Prod.mk.inj hp
        exact s2 e
      · have := (Prod.mk.inj hp).2; cases this
    | some y =>
      obtain ⟨a, e1⟩ := y
      obtain ⟨-, -, -, -, -, g0, g1, -⟩ := pn_some hq e
      have ra := pn_N (n := 5) hq rfl (by decide) e
      obtain ⟨Ma, ea, Ia, na, ka⟩ := s1 a e1 e
      rw [show 7 - r + 1 = 8 - r by omega] at Ia
      dsimp only
      rw [ea]
      exact ih e1 (upN f (7 - r) a) (c + 1) Ma (by omega) g1 (by omega) Ia (fun j hj => by
        unfold upN
        by_cases e2 : j = 7 - r
        · rw [if_pos e2, e2]; exact na
        · rw [if_neg e2, ka j e2]; exact hf j (by omega)) (fun j => by
        unfold upN
        split
        · omega
        · exact hf6 j)
theorem settle0 (hN : Nm E (ad 50) (ad 0) ad) (ho : okH h) {f : Nat → Nat} (c : CH ad Mt 200 h pi) (m6 : mi Mt (ad 54) 6 = nI 0) (m0 : ∀ j, j < 8 → mi Mt (ad 57) j = nI (f j)) : ∃ M', f_X7_settle E Mt (ad 54) (ad 200) = some M' ∧ CH ad M' 200 (withS h (kdS (oS h) f)) pi ∧ Off ad Mt M' 200 216 := by
  have hI := hN.2.2.1
  have hH := hn_of hN (H := 200) (Or.inr (Or.inl rfl))
  have hS := sn_of hN (H := 200) (Or.inr (Or.inl rfl))
  have d : ¬ ad 57 = ad (200 + 12 + 1) := fun z => by have := hI _ _ z; omega
  unfold f_X7_settle f_X7_settleKinds
  rw [m6, if_pos (by decide), hH.2.2.1]
  obtain ⟨n, e⟩ := loop_FU (fun q (a : Mem) v => f_X7_settleKinds_L2 E q a (ad 54) (ad (200 + 12)) v) (fun j => upR Mt (ad (200 + 12 + 1)) 0 j (fun k => nI (f k))) 8 (by decide) (by
    intro n j hj
    show b_X7_settleKinds_L2 E (f_X7_settleKinds_L2 E n) _ (ad 54) (ad (200 + 12)) (nI j) = _
    unfold b_X7_settleKinds_L2
    rw [if_neg (lt8 hj), gd_nI hj (by decide), ix_nI (by omega), hS.1, n_57 hN, mi_upR, if_neg (fun z => d z.1), m0 j hj, nI_1, upR_s _ _ _ _ _ _ (by omega) _ rfl])
  rw [upR_0] at e
  have e2 : f_X7_settleKinds_L2 E FU Mt (ad 54) (ad (200 + 12)) 0 = some (upR Mt (ad (200 + 12 + 1)) 0 8 (fun k => nI (f k))) := by
    refine e.trans ?_
    show b_X7_settleKinds_L2 E (f_X7_settleKinds_L2 E n) _ (ad 54) (ad (200 + 12)) (nI 8) = _
    unfold b_X7_settleKinds_L2
    rw [if_pos (by decide)]
  rw [e2]
  have o1 : Off ad Mt (upR Mt (ad (200 + 12 + 1)) 0 8 (fun k => nI (f k))) (200 + 12) (200 + 16) := Off_upR hI _ (by omega)
  have dd : ∀ n, n ≠ 213 → ∀ k, mi (upR Mt (ad (200 + 12 + 1)) 0 8 (fun k => nI (f k))) (ad n) k = mi Mt (ad n) k := fun n hn k => by rw [mi_upR, if_neg (fun z => hn (hI _ _ z.1))]
  refine ⟨_, rfl, CH_withS ho.2.2.1 o1 c ⟨fun k hk => ?_, fun i hi => ?_, fun i hi => ?_, ?_, ?_⟩, o1.mono (by decide) (by decide)⟩
  · rw [mi_upR, if_pos ⟨rfl, by omega, by omega⟩]; rfl
  · rw [dd _ (by decide)]; exact c.1.2.2.2.2.1 i hi
  · rw [dd _ (by decide)]; exact c.1.2.2.2.2.2.1 i hi
  · rw [dd _ (by decide)]; exact c.1.2.2.2.2.2.2.1
  · rw [dd _ (by decide)]; exact c.1.2.2.2.2.2.2.2
theorem readInto8 (hN : Nm E (ad 50) (ad 0) ad) (T : T8 ad M B t) (pm : PM ad M 200 pi) : (∀ p, fullP B t = (p, none) → ∃ M', f_X7_readInto E M (ad 54) (ad 200) = some (-10 - nI p, M') ∧ Fr8 ad M M') ∧ ∀ z k' h', fullP B t = (z, some (k', h')) → ∃ M', f_X7_readInto E M (ad 54) (ad 200) = some (nI k', M') ∧ 0 < k' ∧ k' ≤ 150 ∧ okH h' ∧ CH ad M' 200 h' pi ∧ Fr8 ad M M' := by
  have hI := hN.2.2.1
  have hH := hn_of hN (H := 200) (Or.inr (Or.inl rfl))
  have hS := sn_of hN (H := 200) (Or.inr (Or.inl rfl))
  obtain ⟨Ma, ea, ca, oa⟩ := empty_sp hI hH hS ho0 M pm
  have eR : f_X7_readInto E M (ad 54) (ad 200) = Lc E ad 0 (wi (wi (wi Ma (ad 54) 3 0) (ad 54) 6 (-1)) (ad 54) 9 0) := by
    unfold f_X7_readInto
    rw [ea, Option.bind_some]
    rfl
  rw [eR]
  have f1 : Fr8 ad Ma (wi (wi (wi Ma (ad 54) 3 0) (ad 54) 6 (-1)) (ad 54) 9 0) := (Fr8_wi hI (Or.inl ⟨rfl, by decide⟩)).tr ((Fr8_wi hI (Or.inl ⟨rfl, by decide⟩)).tr (Fr8_wi hI (Or.inl ⟨rfl, by decide⟩)))
  have fa : Fr8 ad M (wi (wi (wi Ma (ad 54) 3 0) (ad 54) 6 (-1)) (ad 54) 9 0) := (Fr8_off oa).tr f1
  have hok := okH_new ho0
  have be : Be8 ad M (wi (wi (wi Ma (ad 54) 3 0) (ad 54) 6 (-1)) (ad 54) 9 0) B t 0 0 (newH ho0) pi := by
    refine ⟨T8_fr fa T, ?_, ?_, ?_, CH_54 hok.2.2.1 (fun n n1 n2 j => ?_) f1.2.2 ca, fa⟩
    · simp [mi_wi]; rfl
    · simp [mi_wi]
    · simp [mi_wi]; rfl
    · rw [mi_wi, if_neg (fun z => n1 (hI _ _ z.1)), mi_wi, if_neg (fun z => n1 (hI _ _ z.1)), mi_wi, if_neg (fun z => n1 (hI _ _ z.1))]
  generalize wi (wi (wi Ma (ad 54) 3 0) (ad 54) 6 (-1)) (ad 54) 9 0 = Mx at be ⊢
  obtain ⟨-, b2, b3⟩ := beg_step hN hok (show 0 < 1000 by decide) (Nat.le_refl 0) (Nat.zero_le t) be
  obtain ⟨q1, q2⟩ := first_q (B := B) (t := t)
  have hs : sk B t 0 ≤ t := sk_le (Nat.zero_le _)
  have he : rn B t 97 122 (sk B t 0) ≤ t := rnF_le _ _ _ _ _ _ hs
  have first : (∀ p, firstP B t = (p, none) → ∃ M', Lc E ad 0 Mx = some (-10 - nI p, M') ∧ Fr8 ad M M') ∧ ∀ z f q', firstP B t = (z, some (f, q')) → ∃ M' c', Lc E ad 0 Mx = Lc E ad c' M' ∧ c' ≤ q' ∧ (∀ j, f j < 6) ∧ Be8 ad M M' B t q' 1 (kh f) pi := by
    unfold firstP
    by_cases e0 : wdI B t (sk B t 0) = 0
    · rw [if_pos e0]
      obtain ⟨M1, e1, i1⟩ := b2 0 e0 (by decide) ⟨fun _ => rfl, fun _ => rfl⟩ (fun z => absurd z.1 (by decide))
      obtain ⟨-, -, -, -, l⟩ := tok_word (B := B) (t := t) (s := sk B t 0) (by rw [e0]; decide)
      obtain ⟨n1, n2⟩ := nums8 hN hok 8 _ (fun _ => 0) (0 + 1) M1 (Nat.le_refl _) he (by omega) i1 (fun j hj => by omega) (fun _ => by decide)
      rw [e1]
      cases e : numsP B t 8 (rn B t 97 122 (sk B t 0)) (fun _ => 0) with
      | mk z x =>
        cases x with
        | none =>
          refine ⟨fun p hp => ?_, fun p f' q' hp => ?_⟩
          · have hp : (z, (none : Option ((Nat → Nat) × Nat))) = (p, none) := hp
            obtain ⟨rfl, -⟩ := Prod.mk.inj hp
            exact n1 _ e
          · have := (Prod.mk.inj hp).2; cases this
        | some y =>
          obtain ⟨f, q⟩ := y
          obtain ⟨M2, c2, e2, hc2, hq2, i2, m2, f6⟩ := n2 _ _ _ e
          obtain ⟨x1, x2⟩ := end_step (h' := kh f) hN hok (okH_kh f6) (v := 0) (by decide) hc2 hq2 i2 (fun Mt ct m6 mj => settle0 hN hok ct m6 (fun j hj => (mj j).trans (m2 j hj)))
          dsimp only
          rw [e2]
          cases e3 : en B t q with
          | none =>
            refine ⟨fun p hp => ?_, fun p f' q' hp => ?_⟩
            · obtain ⟨rfl, -⟩ := Prod.mk.inj hp
              exact x2 e3
            · have := (Prod.mk.inj hp).2; cases this
          | some q' =>
            refine ⟨fun p hp => ?_, fun p f' q'' hp => ?_⟩
            · have := (Prod.mk.inj hp).2; cases this
            · obtain ⟨rfl, rfl⟩ := Prod.mk.inj (Option.some.inj (Prod.mk.inj hp).2)
              obtain ⟨M3, e4, b4⟩ := x1 _ e3
              obtain ⟨g1, g2⟩ := en_some e3
              have := sk_ge B t q
              exact ⟨M3, _, e4, by omega, f6, b4⟩
    · rw [if_neg e0]
      refine ⟨fun p hp => ?_, fun p f' q' hp => ?_⟩
      · obtain ⟨rfl, -⟩ := Prod.mk.inj hp
        refine b3 (Or.inl rfl) ?_
        rcases wdI_vals B t (sk B t 0) with hw | ⟨v, hv, hw⟩
        · exact Or.inl hw
        · refine Or.inr ⟨v, hv, hw, Or.inl (fun z => ?_)⟩
          have : v = 0 := z.mpr rfl
          rw [this] at hw
          exact e0 hw
      · have := (Prod.mk.inj hp).2; cases this
  unfold fullP
  cases e : firstP B t with
  | mk z x =>
    cases x with
    | none =>
      refine ⟨fun p hp => ?_, fun z k' h' hp => ?_⟩
      · have hp : (z, (none : Option (Nat × Ho))) = (p, none) := hp
        obtain ⟨rfl, -⟩ := Prod.mk.inj hp
        exact first.1 _ e
      · have := (Prod.mk.inj hp).2; cases this
    | some y =>
      obtain ⟨f, q⟩ := y
      obtain ⟨M', c', e1, hc', f6, b'⟩ := first.2 _ _ _ e
      have hq := q2 _ _ _ e
      dsimp only
      rw [e1]
      exact runs8 hN 151 q 1 c' M' (kh f) (by have := T.1; omega) hq.2 hc' (by decide) hq.1 T.1 (okH_kh f6) b'
end Al62
