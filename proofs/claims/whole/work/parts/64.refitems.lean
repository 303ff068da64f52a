/-! the reference's items -/
section Al64
variable {E : Env1} {ad : Nat → Nat} {M0 M M1 M2 : Mem} {B : Nat → Nat} {t : Nat} {h h' : Ho}
def Fr9 (ad : Nat → Nat) (M M1 : Mem) : Prop := Mo ad M M1 ∧ ∀ k, mi M1 (ad 19) k = mi M (ad 19) k
theorem Fr9.tr (a : Fr9 ad M M1) (b : Fr9 ad M1 M2) : Fr9 ad M M2 := ⟨a.1.tr b.1, fun k => (b.2 k).trans (a.2 k)⟩
theorem Fr9.rf : Fr9 ad M M := ⟨Mo.rf, fun _ => rfl⟩
theorem Fr9_cu (hI : ∀ n n', ad n = ad n' → n = n') (a : Cu ad M M1) : Fr9 ad M M1 := ⟨⟨fun n hn k => a.1 _ _ (fun z => by have := hI _ _ z.1; omega), a.1 _ _ (fun z => by have := z.2; omega), congrArg (fun z => z.2) a.2, fun k _ => ⟨congrArg (fun z => z.1 (ad 0) k) a.2, congrArg (fun z => z.1 (ad 50) (k - 19)) a.2⟩⟩, fun k => a.1 _ _ (fun z => by have := hI _ _ z.1; omega)⟩
theorem Fr9_st (a : StM ad M M1) : Fr9 ad M M1 := ⟨Mo_st a, fun k => a.1 19 (by decide) (by decide) (by decide) (by decide) k⟩
theorem T9_fr (a : Fr9 ad M M1) (T : T9 ad M B t) : T9 ad M1 B t := ⟨T.1, a.1.2.1.trans T.2.1, fun i hi => ⟨(a.1.1 15 (by decide) i).trans (T.2.2 i hi).1, (T.2.2 i hi).2⟩⟩
theorem lv_cu (hI : ∀ n n', ad n = ad n' → n = n') (a : Cu ad M M1) : lv ad M1 = lv ad M := by
  have q0 : ∀ k, k ≠ 17 → k ≠ 18 → mi M1 (ad 0) k = mi M (ad 0) k := fun k h1 h2 => a.1 _ _ (fun z => by have := z.2; omega)
  have qn : ∀ n, n ≠ 0 → ∀ k, mi M1 (ad n) k = mi M (ad n) k := fun n hn k => a.1 _ _ (fun z => hn (hI _ _ z.1))
  funext k
  unfold lv
  simp only [q0 2 (by decide) (by decide), q0 3 (by decide) (by decide), q0 1 (by decide) (by decide), q0 4 (by decide) (by decide), q0 5 (by decide) (by decide), q0 6 (by decide) (by decide), q0 21 (by decide) (by decide), qn 10 (by decide), qn 9 (by decide), qn 11 (by decide), qn 7 (by decide), qn 8 (by decide), qn 12 (by decide), qn 13 (by decide), qn 14 (by decide), qn 20 (by decide)]
theorem IB_cu (hI : ∀ n n', ad n = ad n' → n = n') (a : Cu ad M M1) (b : IB (lv ad M) h) : IB (lv ad M1) h := by rw [lv_cu hI a]; exact b
theorem addOne_19 (hN : Nm E (ad 50) (ad 0) ad) {a b : Int32} {r : Int32 × Mem} (e : f_X9_addOne E M (ad 0) a b = some r) : ∀ k, mi r.2 (ad 19) k = mi M (ad 19) k := by
  have hI := hN.2.2.1
  have d : ∀ a b, a ≠ b → ¬ ad a = ad b := fun a b h z => h (hI _ _ z)
  intro k
  unfold f_X9_addOne at e
  obtain ⟨-, e⟩ := gd_some e
  obtain ⟨-, e⟩ := gd_some e
  rw [nm_v] at e
  obtain ⟨-, e⟩ := gd_some e
  obtain ⟨-, e⟩ := gd_some e
  rw [nm_v] at e
  obtain rfl := Option.some.inj e
  rw [n_7 hN, n_8 hN, n_9 hN, n_10 hN]
  simp only [mi_wi]
  rw [if_neg (fun z => d _ _ (by decide) z.1), if_neg (fun z => d _ _ (by decide) z.1), if_neg (fun z => d _ _ (by decide) z.1), if_neg (fun z => d _ _ (by decide) z.1), if_neg (fun z => d _ _ (by decide) z.1), if_neg (fun z => d _ _ (by decide) z.1)]
theorem pass_eq : ∀ n (s : Sd), sT s + n ≤ 9999 → passN n s = passK n s ∧ sT (passN n s) = sT s + n := by
  intro n
  induction n with
  | zero => intro s _; exact ⟨rfl, rfl⟩
  | succ n ih =>
    intro s hs
    have e : passN (n + 1) s = passN n (passS s) := if_neg (by omega)
    have e1 : sT (passS s) = sT s + 1 := rfl
    rw [e]
    obtain ⟨i1, i2⟩ := ih (passS s) (by omega)
    exact ⟨i1, by rw [i2]; omega⟩
theorem one9 (hN : Nm E (ad 50) (ad 0) ad) (ho : okH h) (T : T9 ad M B t) {q : Nat} (hq : q ≤ t) (hP : oP h < 6) (h17 : mi M (ad 0) 17 = nI q) (hb : IB (lv ad M) h) : (∀ p, two B t 0 5 1 12 q = (p, none) → ∃ M', f_X9_readsOne E M (ad 0) = some (0, M') ∧ mi M' (ad 0) 17 = nI p ∧ Fr9 ad M M') ∧ ∀ z a b q', two B t 0 5 1 12 q = (z, some (a, b, q')) → ∃ M', f_X9_readsOne E M (ad 0) = some (1, M') ∧ mi M' (ad 0) 17 = nI q' ∧ Fr9 ad M M' ∧ IB (lv ad M') (eff h 1 a b) := by
  have hI := hN.2.2.1
  obtain ⟨s1, s2⟩ := number9 hN T 0 5 hq h17
  unfold f_X9_readsOne
  rcases two_cases (B := B) (t := t) 0 5 1 12 q with ⟨p1, e⟩ | ⟨a, e1, p1, r⟩
  · rw [e]
    refine ⟨fun p hp => ?_, fun z a b q' hp => ?_⟩
    · obtain ⟨rfl, -⟩ := Prod.mk.inj hp
      obtain ⟨Ma, ea, a17, ka⟩ := s2 p1
      rw [ea, Option.bind_some, if_pos rfl]
      exact ⟨Ma, rfl, a17, Fr9_cu hI ka⟩
    · have := (Prod.mk.inj hp).2; cases this
  · obtain ⟨-, -, -, -, -, l1, l2, -⟩ := pn_some hq p1
    obtain ⟨Ma, ea, a17, a18, ka⟩ := s1 a e1 p1
    have Ta := T9_cu hI ka T
    obtain ⟨u1, u2⟩ := number9 hN Ta 1 12 l2 a17
    rw [ea, Option.bind_some, if_neg I10]
    rcases r with ⟨p2, e⟩ | ⟨b, e2, p2, r⟩
    · rw [e]
      refine ⟨fun p hp => ?_, fun z a b q' hp => ?_⟩
      · obtain ⟨rfl, -⟩ := Prod.mk.inj hp
        obtain ⟨Mb, eb, b17, kb⟩ := u2 p2
        rw [eb, Option.bind_some, if_pos rfl]
        exact ⟨Mb, rfl, b17, Fr9_cu hI (ka.tr kb)⟩
      · have := (Prod.mk.inj hp).2; cases this
    · obtain ⟨-, -, -, -, -, l3, l4, -⟩ := pn_some l2 p2
      obtain ⟨Mb, eb, b17, b18, kb⟩ := u1 b e2 p2
      have Tb := T9_cu hI kb Ta
      obtain ⟨x1, x2⟩ := ends9 hN Tb l4 b17
      rw [eb, Option.bind_some, if_neg I10]
      rcases r with ⟨p3, e⟩ | ⟨q', p3, e⟩
      · rw [e]
        refine ⟨fun p hp => ?_, fun z a b q' hp => ?_⟩
        · obtain ⟨rfl, -⟩ := Prod.mk.inj hp
          obtain ⟨Mc, ec, c17, kc⟩ := x2 p3
          rw [ec, Option.bind_some, if_pos rfl]
          exact ⟨Mc, rfl, c17, Fr9_cu hI (ka.tr (kb.tr kc))⟩
        · have := (Prod.mk.inj hp).2; cases this
      · rw [e]
        refine ⟨fun p hp => ?_, fun z a' b' q'' hp => ?_⟩
        · have := (Prod.mk.inj hp).2; cases this
        · have hp1 := Option.some.inj (Prod.mk.inj hp).2
          have ha := (Prod.mk.inj hp1).1
          have hp2 := (Prod.mk.inj hp1).2
          have hbb := (Prod.mk.inj hp2).1
          have hq2 := (Prod.mk.inj hp2).2
          subst ha
          subst hbb
          subst hq2
          obtain ⟨Mc, ec, c17, kc⟩ := x1 _ p3
          have ra := pn_N (n := 5) hq rfl (by decide) p1
          have rb := pn_N (n := 12) l2 rfl (by decide) p2
          have kk := ka.tr (kb.tr kc)
          obtain ⟨Md, ed, bd, md, m17⟩ := addOne_sp hN ho hP (k := a) (w := b) (by omega) rb (IB_cu hI kk hb)
          rw [ec, Option.bind_some, if_neg I10, a18, b18, ed, Option.bind_some]
          exact ⟨Md, rfl, (m17 17 (Or.inl rfl)).trans c17, (Fr9_cu hI kk).tr ⟨md, addOne_19 hN ed⟩, bd⟩
theorem where9 (hN : Nm E (ad 50) (ad 0) ad) (ho : okH h) (T : T9 ad M B t) {q v : Nat} {hi : Int32} {f : Int32} (hv : (v = 2 ∧ f = 1 ∧ hi = 7) ∨ (v = 4 ∧ f = 0 ∧ hi = 8)) (hq : q ≤ t) (h17 : mi M (ad 0) 17 = nI q) (hb : IB (lv ad M) h) : (∀ p, two B t 0 (nI (oP h) - 1) 0 hi q = (p, none) → ∃ M', f_X9_readsWhere E M (ad 0) f = some (0, M') ∧ mi M' (ad 0) 17 = nI p ∧ Fr9 ad M M') ∧ ∀ z a b q', two B t 0 (nI (oP h) - 1) 0 hi q = (z, some (a, b, q')) → ∃ M', f_X9_readsWhere E M (ad 0) f = some (1, M') ∧ mi M' (ad 0) 17 = nI q' ∧ Fr9 ad M M' ∧ IB (lv ad M') (eff h v a b) := by
  have hI := hN.2.2.1
  have hp := ho.1.1
  have d : ∀ a b, a ≠ b → ¬ ad a = ad b := fun a b h z => h (hI _ _ z)
  have r0 := RO_of hp hb
  obtain ⟨s1, s2⟩ := number9 hN T 0 (nI (oP h) - 1) hq h17
  have ehi : (if f = 0 then (8 : Int32) else (7 : Int32)) = hi := by
    rcases hv with ⟨-, rfl, rfl⟩ | ⟨-, rfl, rfl⟩ <;> rfl
  unfold f_X9_readsWhere
  rw [r0.1]
  rcases two_cases (B := B) (t := t) 0 (nI (oP h) - 1) 0 hi q with ⟨p1, e⟩ | ⟨a, e1, p1, r⟩
  · rw [e]
    refine ⟨fun p hp => ?_, fun z a b q' hp => ?_⟩
    · obtain ⟨rfl, -⟩ := Prod.mk.inj hp
      obtain ⟨Ma, ea, a17, ka⟩ := s2 p1
      rw [ea, Option.bind_some, if_pos rfl]
      exact ⟨Ma, rfl, a17, Fr9_cu hI ka⟩
    · have := (Prod.mk.inj hp).2; cases this
  · obtain ⟨-, -, -, -, -, l1, l2, -⟩ := pn_some hq p1
    obtain ⟨Ma, ea, a17, a18, ka⟩ := s1 a e1 p1
    have Ta := T9_cu hI ka T
    obtain ⟨u1, u2⟩ := number9 hN Ta 0 hi l2 a17
    rw [ea, Option.bind_some, if_neg I10, ehi]
    rcases r with ⟨p2, e⟩ | ⟨b, e2, p2, r⟩
    · rw [e]
      refine ⟨fun p hp => ?_, fun z a b q' hp => ?_⟩
      · obtain ⟨rfl, -⟩ := Prod.mk.inj hp
        obtain ⟨Mb, eb, b17, kb⟩ := u2 p2
        rw [eb, Option.bind_some, if_pos rfl]
        exact ⟨Mb, rfl, b17, Fr9_cu hI (ka.tr kb)⟩
      · have := (Prod.mk.inj hp).2; cases this
    · obtain ⟨-, -, -, -, -, l3, l4, -⟩ := pn_some l2 p2
      obtain ⟨Mb, eb, b17, b18, kb⟩ := u1 b e2 p2
      have Tb := T9_cu hI kb Ta
      have kk := ka.tr kb
      have ra := pn_P hq hp p1
      have h6 : a < 6 := by omega
      have rb := RO_of hp (IB_cu hI kk hb)
      have hbb := IB_cu hI kk hb
      rw [eb, Option.bind_some, if_neg I10, a18, gd_nI h6 (by decide), ix_nI (by omega), n_10 hN, n_9 hN, rb.2.2.2.2.2.1 a ra, b18, nm_v]
      -- what is written, either way
      have key : ∃ Mw, (if f = 0 then (f_X9_ends E (wi (wi Mb (ad 10) a (nI (sN (oS h) a) ||| (if f = 0 then (0 : Int32) else (1 : Int32) <<< (nI b &&& 31)))) (ad 9) a (mi (wi Mb (ad 10) a (nI (sN (oS h) a) ||| (if f = 0 then (0 : Int32) else (1 : Int32) <<< (nI b &&& 31)))) (ad 0) 18)) (ad 0)).bind (fun x13 => some (x13.1, x13.2)) else (f_X9_ends E (wi (wi Mb (ad 10) a (nI (sN (oS h) a) ||| (if f = 0 then (0 : Int32) else (1 : Int32) <<< (nI b &&& 31)))) (ad 9) a (mi (wi Mb (ad 10) a (nI (sN (oS h) a) ||| (if f = 0 then (0 : Int32) else (1 : Int32) <<< (nI b &&& 31)))) (ad 9) a)) (ad 0)).bind (fun x15 => some (x15.1, x15.2))) = f_X9_ends E Mw (ad 0) ∧ StM ad Mb Mw ∧ mi Mw (ad 0) 17 = nI e2 ∧ IB (lv ad Mw) (eff h v a b) := by
        rcases hv with ⟨rfl, rfl, rfl⟩ | ⟨rfl, rfl, rfl⟩
        · have hb8 := pn_N (n := 7) l2 rfl (by decide) p2
          rw [if_neg I10, if_neg I10, shl1 (by omega), nI_or]
          have m9 : mi (wi Mb (ad 10) a (nI (sN (oS h) a ||| 2 ^ b))) (ad 9) a = nI (sP (oS h) a) - 1 := by rw [mi_wi, if_neg (fun z => d _ _ (by decide) z.1)]; exact rb.2.2.2.2.2.2.1 a ra
          rw [m9]
          have st : StM ad Mb (wi (wi Mb (ad 10) a (nI (sN (oS h) a ||| 2 ^ b))) (ad 9) a (nI (sP (oS h) a) - 1)) := (StM_wi hI (by omega)).tr (StM_wi hI (by omega))
          refine ⟨_, ?_, st, (st.2.1 17 (by decide) (by decide)).trans b17, mod_st hp st hbb ⟨?_, ?_, fun j hj => ?_, fun j hj => ?_, fun j hj => ?_⟩⟩
          · cases f_X9_ends E (wi (wi Mb (ad 10) a (nI (sN (oS h) a ||| 2 ^ b))) (ad 9) a (nI (sP (oS h) a) - 1)) (ad 0) <;> rfl
          · rw [mi_wi, if_neg (fun z => d _ _ (by decide) z.1), mi_wi, if_neg (fun z => d _ _ (by decide) z.1)]; exact rb.2.2.2.1
          · rw [mi_wi, if_neg (fun z => d _ _ (by decide) z.1), mi_wi, if_neg (fun z => d _ _ (by decide) z.1)]; exact rb.2.2.2.2.1
          · rw [mi_wi, if_neg (fun z => d _ _ (by decide) z.1), mi_wi]
            show _ = nI (if j = a then sN (oS h) a ||| 2 ^ b else sN (oS h) j)
            by_cases e2 : j = a
            · rw [if_pos ⟨rfl, e2⟩, if_pos e2]
            · rw [if_neg (fun z => e2 z.2), if_neg e2]; exact rb.2.2.2.2.2.1 j hj
          · rw [mi_wi]
            by_cases e2 : j = a
            · rw [if_pos ⟨rfl, e2⟩, e2]; rfl
            · rw [if_neg (fun z => e2 z.2), mi_wi, if_neg (fun z => d _ _ (by decide) z.1)]; exact rb.2.2.2.2.2.2.1 j hj
          · rw [mi_wi, if_neg (fun z => d _ _ (by decide) z.1), mi_wi, if_neg (fun z => d _ _ (by decide) z.1)]; exact rb.2.2.2.2.2.2.2 j hj
        · have hb8 := pn_N (n := 8) l2 rfl (by decide) p2
          rw [if_pos rfl, if_pos rfl, show nI (sN (oS h) a) ||| (0 : Int32) = nI (sN (oS h) a) from (nI_or _ 0).trans (by rw [Nat.or_zero])]
          have m18 : mi (wi Mb (ad 10) a (nI (sN (oS h) a))) (ad 0) 18 = nI b := by rw [mi_wi, if_neg (fun z => d _ _ (by decide) z.1)]; exact b18
          rw [m18]
          have st : StM ad Mb (wi (wi Mb (ad 10) a (nI (sN (oS h) a))) (ad 9) a (nI b)) := (StM_wi hI (by omega)).tr (StM_wi hI (by omega))
          refine ⟨_, ?_, st, (st.2.1 17 (by decide) (by decide)).trans b17, mod_st hp st hbb ⟨?_, ?_, fun j hj => ?_, fun j hj => ?_, fun j hj => ?_⟩⟩
          · cases f_X9_ends E (wi (wi Mb (ad 10) a (nI (sN (oS h) a))) (ad 9) a (nI b)) (ad 0) <;> rfl
          · rw [mi_wi, if_neg (fun z => d _ _ (by decide) z.1), mi_wi, if_neg (fun z => d _ _ (by decide) z.1)]; exact rb.2.2.2.1
          · rw [mi_wi, if_neg (fun z => d _ _ (by decide) z.1), mi_wi, if_neg (fun z => d _ _ (by decide) z.1)]; exact rb.2.2.2.2.1
          · rw [mi_wi, if_neg (fun z => d _ _ (by decide) z.1), mi_wi]
            by_cases e2 : j = a
            · rw [if_pos ⟨rfl, e2⟩, e2]; rfl
            · rw [if_neg (fun z => e2 z.2)]; exact rb.2.2.2.2.2.1 j hj
          · rw [mi_wi]
            show _ = nI (if j = a then b + 1 else sP (oS h) j) - 1
            by_cases e2 : j = a
            · rw [if_pos ⟨rfl, e2⟩, if_pos e2, nI_pred]
            · rw [if_neg (fun z => e2 z.2), if_neg e2, mi_wi, if_neg (fun z => d _ _ (by decide) z.1)]; exact rb.2.2.2.2.2.2.1 j hj
          · rw [mi_wi, if_neg (fun z => d _ _ (by decide) z.1), mi_wi, if_neg (fun z => d _ _ (by decide) z.1)]; exact rb.2.2.2.2.2.2.2 j hj
      obtain ⟨Mw, ew, sw, w17, bw⟩ := key
      rw [ew]
      have fw := (Fr9_cu hI kk).tr (Fr9_st sw)
      obtain ⟨x1, x2⟩ := ends9 hN (T9_fr (Fr9_st sw) Tb) l4 w17
      rcases r with ⟨p3, e⟩ | ⟨q', p3, e⟩
      · rw [e]
        refine ⟨fun p hp => ?_, fun z a b q' hp => ?_⟩
        · obtain ⟨rfl, -⟩ := Prod.mk.inj hp
          obtain ⟨Mc, ec, c17, kc⟩ := x2 p3
          exact ⟨Mc, ec, c17, fw.tr (Fr9_cu hI kc)⟩
        · have := (Prod.mk.inj hp).2; cases this
      · rw [e]
        refine ⟨fun p hp => ?_, fun z a' b' q'' hp => ?_⟩
        · have := (Prod.mk.inj hp).2; cases this
        · have hp1 := Option.some.inj (Prod.mk.inj hp).2
          have ha := (Prod.mk.inj hp1).1
          have hp2 := (Prod.mk.inj hp1).2
          have hbb := (Prod.mk.inj hp2).1
          have hq2 := (Prod.mk.inj hp2).2
          subst ha
          subst hbb
          subst hq2
          obtain ⟨Mc, ec, c17, kc⟩ := x1 _ p3
          exact ⟨Mc, ec, c17, fw.tr (Fr9_cu hI kc), IB_cu hI kc bw⟩
/-- the items of one number -/
theorem single9 (hN : Nm E (ad 50) (ad 0) ad) (T : T9 ad M B t) {q : Nat} {lo hi : Int32} {R : Option (Int32 × Mem)} {F : Nat → Ho} (hq : q ≤ t) (h17 : mi M (ad 0) 17 = nI q) (hR : (∀ Ma, f_X9_number E M (ad 0) lo hi = some (0, Ma) → R = some (0, Ma)) ∧ ∀ Ma a e, f_X9_number E M (ad 0) lo hi = some (1, Ma) → pn B t lo hi q = some (a, e) → mi Ma (ad 0) 18 = nI a → Cu ad M Ma → ∃ Mw, R = f_X9_ends E Mw (ad 0) ∧ StM ad Ma Mw ∧ IB (lv ad Mw) (F a)) : (∀ p, one1 B t lo hi q = (p, none) → ∃ M', R = some (0, M') ∧ mi M' (ad 0) 17 = nI p ∧ Fr9 ad M M') ∧ ∀ z a b q', one1 B t lo hi q = (z, some (a, b, q')) → ∃ M', R = some (1, M') ∧ mi M' (ad 0) 17 = nI q' ∧ Fr9 ad M M' ∧ IB (lv ad M') (F a) := by
  have hI := hN.2.2.1
  obtain ⟨s1, s2⟩ := number9 hN T lo hi hq h17
  rcases one_cases (B := B) (t := t) lo hi q with ⟨p1, e⟩ | ⟨a, e1, p1, r⟩
  · rw [e]
    refine ⟨fun p hp => ?_, fun z a b q' hp => ?_⟩
    · obtain ⟨rfl, -⟩ := Prod.mk.inj hp
      obtain ⟨Ma, ea, a17, ka⟩ := s2 p1
      exact ⟨Ma, hR.1 Ma ea, a17, Fr9_cu hI ka⟩
    · have := (Prod.mk.inj hp).2; cases this
  · obtain ⟨-, -, -, -, -, l1, l2, -⟩ := pn_some hq p1
    obtain ⟨Ma, ea, a17, a18, ka⟩ := s1 a e1 p1
    have Ta := T9_cu hI ka T
    obtain ⟨Mw, ew, sw, bw⟩ := hR.2 Ma a e1 ea p1 a18 ka
    have w17 := (sw.2.1 17 (by decide) (by decide)).trans a17
    have fw := (Fr9_cu hI ka).tr (Fr9_st sw)
    obtain ⟨x1, x2⟩ := ends9 hN (T9_fr (Fr9_st sw) Ta) l2 w17
    rw [ew]
    rcases r with ⟨p3, e⟩ | ⟨q', p3, e⟩
    · rw [e]
      refine ⟨fun p hp => ?_, fun z a b q' hp => ?_⟩
      · obtain ⟨rfl, -⟩ := Prod.mk.inj hp
        obtain ⟨Mc, ec, c17, kc⟩ := x2 p3
        exact ⟨Mc, ec, c17, fw.tr (Fr9_cu hI kc)⟩
      · have := (Prod.mk.inj hp).2; cases this
    · rw [e]
      refine ⟨fun p hp => ?_, fun z a' b' q'' hp => ?_⟩
      · have := (Prod.mk.inj hp).2; cases this
      · have hp1 := Option.some.inj (Prod.mk.inj hp).2
        have ha := (Prod.mk.inj hp1).1
        have hp2 := (Prod.mk.inj hp1).2
        have hq2 := (Prod.mk.inj hp2).2
        subst ha
        subst hq2
        obtain ⟨Mc, ec, c17, kc⟩ := x1 _ p3
        exact ⟨Mc, ec, c17, fw.tr (Fr9_cu hI kc), IB_cu hI kc bw⟩
theorem carpet9 (hN : Nm E (ad 50) (ad 0) ad) (ho : okH h) (T : T9 ad M B t) {q : Nat} (hq : q ≤ t) (h17 : mi M (ad 0) 17 = nI q) (hb : IB (lv ad M) h) : (∀ p, one1 B t 0 6 q = (p, none) → ∃ M', f_X9_readsCarpet E M (ad 0) = some (0, M') ∧ mi M' (ad 0) 17 = nI p ∧ Fr9 ad M M') ∧ ∀ z a b q', one1 B t 0 6 q = (z, some (a, b, q')) → ∃ M', f_X9_readsCarpet E M (ad 0) = some (1, M') ∧ mi M' (ad 0) 17 = nI q' ∧ Fr9 ad M M' ∧ IB (lv ad M') (eff h 3 a 0) := by
  have hI := hN.2.2.1
  have hp := ho.1.1
  have d : ∀ a b, a ≠ b → ¬ ad a = ad b := fun a b h z => h (hI _ _ z)
  refine single9 (F := fun a => eff h 3 a 0) hN T hq h17 ⟨fun Ma ea => ?_, fun Ma a e ea p1 a18 ka => ?_⟩
  · unfold f_X9_readsCarpet
    rw [ea, Option.bind_some, if_pos rfl]
  · have ra := pn_N (n := 6) hq rfl (by decide) p1
    have rb := RO_of hp (IB_cu hI ka hb)
    have st : StM ad Ma (wi Ma (ad 0) 3 (nI (sC (oS h) ||| 2 ^ a))) := StM_wi hI (by omega)
    unfold f_X9_readsCarpet
    rw [ea, Option.bind_some, if_neg I10, a18, rb.2.2.2.2.1, shl1 (by omega), nI_or]
    refine ⟨_, ?_, st, mod_st hp st (IB_cu hI ka hb) ⟨?_, ?_, fun j hj => ?_, fun j hj => ?_, fun j hj => ?_⟩⟩
    · cases f_X9_ends E (wi Ma (ad 0) 3 (nI (sC (oS h) ||| 2 ^ a))) (ad 0) <;> rfl
    · rw [mi_wi, if_neg (fun z => absurd z.2 (by decide))]; exact rb.2.2.2.1
    · rw [mi_wi, if_pos ⟨rfl, rfl⟩]; rfl
    · rw [mi_wi, if_neg (fun z => d _ _ (by decide) z.1)]; exact rb.2.2.2.2.2.1 j hj
    · rw [mi_wi, if_neg (fun z => d _ _ (by decide) z.1)]; exact rb.2.2.2.2.2.2.1 j hj
    · rw [mi_wi, if_neg (fun z => d _ _ (by decide) z.1)]; exact rb.2.2.2.2.2.2.2 j hj
theorem minutes9 (hN : Nm E (ad 50) (ad 0) ad) (ho : okH h) (hT : sT (oS h) ≤ 9900) (T : T9 ad M B t) {q : Nat} (hq : q ≤ t) (h17 : mi M (ad 0) 17 = nI q) (hb : IB (lv ad M) h) : (∀ p, one1 B t 1 99 q = (p, none) → ∃ M', f_X9_readsMinutes E M (ad 0) = some (0, M') ∧ mi M' (ad 0) 17 = nI p ∧ Fr9 ad M M') ∧ ∀ z a b q', one1 B t 1 99 q = (z, some (a, b, q')) → ∃ M', f_X9_readsMinutes E M (ad 0) = some (1, M') ∧ mi M' (ad 0) 17 = nI q' ∧ Fr9 ad M M' ∧ IB (lv ad M') (eff h 5 a 0) := by
  have hI := hN.2.2.1
  have hp := ho.1.1
  refine single9 (F := fun a => eff h 5 a 0) hN T hq h17 ⟨fun Ma ea => ?_, fun Ma a e ea p1 a18 ka => ?_⟩
  · unfold f_X9_readsMinutes
    rw [ea, Option.bind_some, if_pos rfl]
  · have ra := pn_99 p1
    have rb := RO_of hp (IB_cu hI ka hb)
    obtain ⟨Mb, eb, cb, sb⟩ := goesOn_sp hN hp ra ho.1.2.2.2 (by omega) rb.1 rb.2.2.2
    unfold f_X9_readsMinutes
    rw [ea, Option.bind_some, if_neg I10, a18, eb, Option.bind_some]
    rw [← (pass_eq a (oS h) (by omega)).1] at cb
    refine ⟨Mb, ?_, sb, mod_st hp sb (IB_cu hI ka hb) cb⟩
    cases f_X9_ends E Mb (ad 0) <;> rfl
end Al64
