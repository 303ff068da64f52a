/-! items, as they are thought -/
section Al60
def two (B : Nat → Nat) (t : Nat) (l1 h1 l2 h2 : Int32) (q : Nat) : Nat × Option (Nat × Nat × Nat) :=
  match pn B t l1 h1 q with
  | none => (sk B t q, none)
  | some (a, e1) =>
    match pn B t l2 h2 e1 with
    | none => (sk B t e1, none)
    | some (b, e2) =>
      match en B t e2 with
      | none => (sk B t e2, none)
      | some q' => (0, some (a, b, q'))
def one1 (B : Nat → Nat) (t : Nat) (l1 h1 : Int32) (q : Nat) : Nat × Option (Nat × Nat × Nat) :=
  match pn B t l1 h1 q with
  | none => (sk B t q, none)
  | some (a, e1) =>
    match en B t e1 with
    | none => (sk B t e1, none)
    | some q' => (0, some (a, 0, q'))
variable {B : Nat → Nat} {t : Nat}
theorem two_cases (l1 h1 l2 h2 : Int32) (q : Nat) : (pn B t l1 h1 q = none ∧ two B t l1 h1 l2 h2 q = (sk B t q, none)) ∨ ∃ a e1, pn B t l1 h1 q = some (a, e1) ∧ ((pn B t l2 h2 e1 = none ∧ two B t l1 h1 l2 h2 q = (sk B t e1, none)) ∨ ∃ b e2, pn B t l2 h2 e1 = some (b, e2) ∧ ((en B t e2 = none ∧ two B t l1 h1 l2 h2 q = (sk B t e2, none)) ∨ ∃ q', en B t e2 = some q' ∧ two B t l1 h1 l2 h2 q = (0, some (a, b, q')))) := by
  unfold two
  cases e1 : pn B t l1 h1 q with
  | none => exact Or.inl ⟨rfl, rfl⟩
  | some x =>
    obtain ⟨a, e1'⟩ := x
    refine Or.inr ⟨a, e1', rfl, ?_⟩
    dsimp only
    cases e2 : pn B t l2 h2 e1' with
    | none => exact Or.inl ⟨rfl, rfl⟩
    | some y =>
      obtain ⟨b, e2'⟩ := y
      refine Or.inr ⟨b, e2', rfl, ?_⟩
      dsimp only
      cases e3 : en B t e2' with
      | none => exact Or.inl ⟨rfl, rfl⟩
      | some q' => exact Or.inr ⟨q', rfl, rfl⟩
theorem one_cases (l1 h1 : Int32) (q : Nat) : (pn B t l1 h1 q = none ∧ one1 B t l1 h1 q = (sk B t q, none)) ∨ ∃ a e1, pn B t l1 h1 q = some (a, e1) ∧ ((en B t e1 = none ∧ one1 B t l1 h1 q = (sk B t e1, none)) ∨ ∃ q', en B t e1 = some q' ∧ one1 B t l1 h1 q = (0, some (a, 0, q'))) := by
  unfold one1
  cases e1 : pn B t l1 h1 q with
  | none => exact Or.inl ⟨rfl, rfl⟩
  | some x =>
    obtain ⟨a, e1'⟩ := x
    refine Or.inr ⟨a, e1', rfl, ?_⟩
    dsimp only
    cases e3 : en B t e1' with
    | none => exact Or.inl ⟨rfl, rfl⟩
    | some q' => exact Or.inr ⟨q', rfl, rfl⟩
theorem en_some {q q' : Nat} (h : en B t q = some q') : (sk B t q < t ∧ B (sk B t q) = 59) ∧ q' = sk B t q + 1 := by
  unfold en at h
  split at h
  · rename_i g; exact ⟨g, (Option.some.inj h).symm⟩
  · cases h
theorem en_none {q : Nat} (h : en B t q = none) : ¬ (sk B t q < t ∧ B (sk B t q) = 59) := by
  unfold en at h
  split at h
  · cases h
  · rename_i g; exact g
def crS (s : Sd) (a : Nat) : Sd := (sT s, sC s ||| 2 ^ a, sS s, sN s, sP s)
def kdS (s : Sd) (f : Nat → Nat) : Sd := (sT s, sC s, f, sN s, sP s)
/-- what an item makes of the house -/
def eff (h : Ho) (v a b : Nat) : Ho := if v = 1 then addS h a b else if v = 2 then withS h (learnS (oS h) a b) else if v = 3 then withS h (crS (oS h) a) else if v = 4 then withS h (stayS (oS h) a (b + 1)) else withS h (passN a (oS h))
def ho0 : Ho := (0, fun _ => 0, fun _ => 0, newS, 0, fun _ => newS, (0, 0, 0), fun _ => 0, fun _ => 0, fun _ => 0)
/-! the class -/
variable {E : Env1} {ad : Nat → Nat} {M0 M M1 M2 Mt : Mem} {h h' : Ho} {pi : Nat → Nat}
def Fr8 (ad : Nat → Nat) (M M1 : Mem) : Prop := (∀ n, n ≠ 54 → n ≠ 57 → (n < 200 ∨ 216 ≤ n) → ∀ k, mi M1 (ad n) k = mi M (ad n) k) ∧ mi M1 (ad 54) 0 = mi M (ad 54) 0 ∧ M1.2 = M.2
theorem Fr8.rf : Fr8 ad M M := ⟨fun _ _ _ _ _ => rfl, rfl, rfl⟩
theorem Fr8.tr (a : Fr8 ad M M1) (b : Fr8 ad M1 M2) : Fr8 ad M M2 := ⟨fun n h1 h2 h3 k => (b.1 n h1 h2 h3 k).trans (a.1 n h1 h2 h3 k), b.2.1.trans a.2.1, b.2.2.trans a.2.2⟩
theorem Fr8_tk (hI : ∀ n n', ad n = ad n' → n = n') (a : Tk ad M M1) : Fr8 ad M M1 := ⟨fun n h1 _ _ k => a.1 _ _ (fun z => h1 (hI _ _ z.1)), a.1 _ _ (fun z => by have := z.2; omega), a.2⟩
theorem Fr8_wi (hI : ∀ n n', ad n = ad n' → n = n') {a k : Nat} {v : Int32} (h : (a = 54 ∧ k ≠ 0) ∨ a = 57) : Fr8 ad M (wi M (ad a) k v) := ⟨fun n h1 h2 _ j => by rw [mi_wi, if_neg (fun (z : ad n = ad a ∧ j = k) => by have := hI _ _ z.1; omega)], by rw [mi_wi, if_neg (fun (z : ad 54 = ad a ∧ 0 = k) => by have := hI _ _ z.1; omega)], rfl⟩
theorem Fr8_off (o : Off ad M M1 200 216) : Fr8 ad M M1 := ⟨fun n _ _ h3 k => o.1 n h3 k, o.1 54 (by decide) 0, o.2⟩
theorem T8_fr (a : Fr8 ad M M1) (T : T8 ad M B t) : T8 ad M1 B t := ⟨T.1, a.2.1.trans T.2.1, fun i hi => ⟨(a.1 56 (by decide) (by decide) (by decide) i).trans (T.2.2 i hi).1, (T.2.2 i hi).2⟩⟩
theorem CH_54 (ho : oU h ≤ 8) (e : ∀ n, n ≠ 54 → n ≠ 57 → ∀ k, mi M1 (ad n) k = mi M (ad n) k) (e2 : M1.2 = M.2) (c : CH ad M 200 h pi) : CH ad M1 200 h pi := CH_sm ho (fun n hn k => ⟨e n (by omega) (by omega) k, congrArg (fun z => z.2 (ad n) k) e2⟩) c
def Lc (E : Env1) (ad : Nat → Nat) (c : Nat) (M : Mem) : Option (Int32 × Mem) := f_X7_readInto_L21 E (1000 - c) M (ad 54) (ad 200) (nI c)
theorem Lc_step (hN : Nm E (ad 50) (ad 0) ad) (T : T8 ad M B t) {c q : Nat} (hc : c ≤ q) (hq : q ≤ t) (h3 : mi M (ad 54) 3 = nI q) : ∃ Mt, Tk ad M Mt ∧ mi Mt (ad 54) 2 = nI (sk B t q) ∧ mi Mt (ad 54) 3 = nI (tE B t (sk B t q)) ∧ mi Mt (ad 54) 4 = tS B t (sk B t q) ∧ mi Mt (ad 54) 5 = tV B t (sk B t q) ∧ ((tS B t (sk B t q) = 0 ∧ mi M (ad 54) 6 = -1 ∧ ¬ mi M (ad 54) 9 ≤ 0) → Lc E ad c M = some (mi M (ad 54) 9, Mt)) ∧ (¬ (tS B t (sk B t q) = 0 ∧ mi M (ad 54) 6 = -1 ∧ ¬ mi M (ad 54) 9 ≤ 0) → ∀ r M', f_X7_takes E Mt (ad 54) (ad 200) = some (r, M') → Lc E ad c M = if r = 0 then some (-10 - mi M' (ad 54) 2, M') else Lc E ad (c + 1) M') := by
  have h150 := T.1
  obtain ⟨Mt, e, k, a2, a3, a4, a5⟩ := next8 hN T hq h3
  have a6 : mi Mt (ad 54) 6 = mi M (ad 54) 6 := k.1 _ _ (fun z => by have := z.2; omega)
  have a9 : mi Mt (ad 54) 9 = mi M (ad 54) 9 := k.1 _ _ (fun z => by have := z.2; omega)
  have hL : Lc E ad c M = b_X7_readInto_L21 E (f_X7_readInto_L21 E (1000 - (c + 1))) M (ad 54) (ad 200) (nI c) := by
    unfold Lc
    rw [show 1000 - c = 1000 - (c + 1) + 1 by omega]
    rfl
  refine ⟨Mt, k, a2, a3, a4, a5, fun z => ?_, fun z r M' et => ?_⟩
  · rw [hL]
    unfold b_X7_readInto_L21
    rw [if_neg (show ¬ (150 : Int32) < nI c from nI_nlt (a := 150) (b := c) (by omega) (by decide)), e, Option.bind_some, a4, a6, a9, if_pos z.1, if_pos z.2.1, if_neg z.2.2]
  · have el : f_X7_readInto_L59 E (f_X7_readInto_L21 E (1000 - (c + 1))) Mt (ad 54) (ad 200) (nI c) = if r = 0 then some (-10 - mi M' (ad 54) 2, M') else Lc E ad (c + 1) M' := by
      unfold f_X7_readInto_L59 Lc
      rw [et, Option.bind_some, nI_1]
    rw [hL]
    unfold b_X7_readInto_L21
    rw [if_neg (show ¬ (150 : Int32) < nI c from nI_nlt (a := 150) (b := c) (by omega) (by decide)), e, Option.bind_some, a4, a6, a9, el]
    by_cases z1 : tS B t (sk B t q) = 0
    · rw [if_pos z1]
      by_cases z2 : mi M (ad 54) 6 = -1
      · rw [if_pos z2]
        by_cases z3 : mi M (ad 54) 9 ≤ 0
        · rw [if_pos z3]
        · exact absurd ⟨z1, z2, z3⟩ z
      · rw [if_neg z2]
    · rw [if_neg z1]
/-- inside an item: its word, how many numbers so far, how many items behind -/
def In8 (ad : Nat → Nat) (M0 M : Mem) (B : Nat → Nat) (t q v g k : Nat) (h : Ho) (pi : Nat → Nat) : Prop := T8 ad M B t ∧ mi M (ad 54) 3 = nI q ∧ mi M (ad 54) 6 = nI v ∧ mi M (ad 54) 7 = nI g ∧ mi M (ad 54) 9 = nI k ∧ CH ad M 200 h pi ∧ Fr8 ad M0 M
/-- between items -/
def Be8 (ad : Nat → Nat) (M0 M : Mem) (B : Nat → Nat) (t q k : Nat) (h : Ho) (pi : Nat → Nat) : Prop := T8 ad M B t ∧ mi M (ad 54) 3 = nI q ∧ mi M (ad 54) 6 = -1 ∧ mi M (ad 54) 9 = nI k ∧ CH ad M 200 h pi ∧ Fr8 ad M0 M
theorem num_step (hN : Nm E (ad 50) (ad 0) ad) (ho : okH h) {c q v g k : Nat} (hv : v < 6) (hg : g < nmW v) (hc : c ≤ q) (hq : q ≤ t) (I : In8 ad M0 M B t q v g k h pi) : (∀ a e, pn B t (lowW v g) (highW v g (oP h)) q = some (a, e) → ∃ M', Lc E ad c M = Lc E ad (c + 1) M' ∧ In8 ad M0 M' B t e v (g + 1) k h pi ∧ mi M' (ad 57) g = nI a ∧ ∀ j, j ≠ g → mi M' (ad 57) j = mi M (ad 57) j) ∧ (pn B t (lowW v g) (highW v g (oP h)) q = none → ∃ M', Lc E ad c M = some (-10 - nI (sk B t q), M') ∧ Fr8 ad M0 M') := by
  have hI := hN.2.2.1
  obtain ⟨T, h3, h6, h7, h9, ch, fr⟩ := I
  obtain ⟨Mt, tk, a2, a3, a4, a5, -, st⟩ := Lc_step hN T hc hq h3
  have nf : ¬ (tS B t (sk B t q) = 0 ∧ mi M (ad 54) 6 = -1 ∧ ¬ mi M (ad 54) 9 ≤ 0) := fun z => nIm1 (a := v) (by omega) (h6.symm.trans z.2.1)
  have t6 : mi Mt (ad 54) 6 = nI v := (tk.1 _ _ (fun z => by have := z.2; omega)).trans h6
  have t7 : mi Mt (ad 54) 7 = nI g := (tk.1 _ _ (fun z => by have := z.2; omega)).trans h7
  have t9 : mi Mt (ad 54) 9 = nI k := (tk.1 _ _ (fun z => by have := z.2; omega)).trans h9
  have tP : mi Mt (ad 200) 0 = nI (oP h) := (tk.1 _ _ (fun z => by have := hI _ _ z.1; omega)).trans ch.1.1
  have tt := tnum8 hN hv hg t6 t7 a4 a5 tP
  have d : ¬ ad 54 = ad 57 := fun z => by have := hI _ _ z; omega
  have d' : ¬ ad 57 = ad 54 := fun z => d z.symm
  refine ⟨fun a e hp => ?_, fun hp => ?_⟩
  · obtain ⟨p1, p2, p3, p4, p5, p6, p7, -⟩ := pn_some hq hp
    rw [if_pos ⟨p1, p2, p3⟩, p4] at tt
    have f1 : Fr8 ad Mt (wi Mt (ad 57) g (nI a)) := Fr8_wi hI (Or.inr rfl)
    have f2 : Fr8 ad (wi Mt (ad 57) g (nI a)) (wi (wi Mt (ad 57) g (nI a)) (ad 54) 7 (nI (g + 1))) := Fr8_wi hI (Or.inl ⟨rfl, by decide⟩)
    have ft := Fr8_tk hI tk
    have fa := ft.tr (f1.tr f2)
    refine ⟨_, (st nf _ _ tt).trans (if_neg I10), ⟨T8_fr fa T, ?_, ?_, ?_, ?_, CH_54 ho.2.2.1 (fun n n1 n2 j => ?_) fa.2.2 ch, fr.tr fa⟩, ?_, fun j hj => ?_⟩
    · rw [mi_wi, if_neg (fun z => absurd z.2 (by decide)), mi_wi, if_neg (fun z => d z.1), a3, p5]
    · rw [mi_wi, if_neg (fun z => absurd z.2 (by decide)), mi_wi, if_neg (fun z => d z.1), t6]
    · rw [mi_wi, if_pos ⟨rfl, rfl⟩]
    · rw [mi_wi, if_neg (fun z => absurd z.2 (by decide)), mi_wi, if_neg (fun z => d z.1), t9]
    · rw [mi_wi, if_neg (fun z => n1 (hI _ _ z.1)), mi_wi, if_neg (fun z => n2 (hI _ _ z.1))]
      exact tk.1 _ _ (fun z => n1 (hI _ _ z.1))
    · rw [mi_wi, if_neg (fun z => d' z.1), mi_wi, if_pos ⟨rfl, rfl⟩]
    · rw [mi_wi, if_neg (fun z => d' z.1), mi_wi, if_neg (fun z => hj z.2)]
      exact tk.1 _ _ (fun z => d' z.1)
  · rw [if_neg (pn_none hq hp)] at tt
    refine ⟨Mt, ?_, fr.tr (Fr8_tk hI tk)⟩
    rw [st nf _ _ tt, if_pos rfl, a2]
theorem end_step (hN : Nm E (ad 50) (ad 0) ad) (ho : okH h) (ho' : okH h') {c q v k : Nat} (hv : v < 6) (hc : c ≤ q) (hq : q ≤ t) (I : In8 ad M0 M B t q v (nmW v) k h pi) (hset : ∀ Mt, CH ad Mt 200 h pi → mi Mt (ad 54) 6 = nI v → (∀ j, mi Mt (ad 57) j = mi M (ad 57) j) → ∃ M', f_X7_settle E Mt (ad 54) (ad 200) = some M' ∧ CH ad M' 200 h' pi ∧ Off ad Mt M' 200 216) : (∀ q', en B t q = some q' → ∃ M', Lc E ad c M = Lc E ad (c + 1) M' ∧ Be8 ad M0 M' B t q' (k + 1) h' pi) ∧ (en B t q = none → ∃ M', Lc E ad c M = some (-10 - nI (sk B t q), M') ∧ Fr8 ad M0 M') := by
  have hI := hN.2.2.1
  obtain ⟨T, h3, h6, h7, h9, ch, fr⟩ := I
  obtain ⟨Mt, tk, a2, a3, a4, a5, -, st⟩ := Lc_step hN T hc hq h3
  have nf : ¬ (tS B t (sk B t q) = 0 ∧ mi M (ad 54) 6 = -1 ∧ ¬ mi M (ad 54) 9 ≤ 0) := fun z => nIm1 (a := v) (by omega) (h6.symm.trans z.2.1)
  have t6 : mi Mt (ad 54) 6 = nI v := (tk.1 _ _ (fun z => by have := z.2; omega)).trans h6
  have t7 : mi Mt (ad 54) 7 = nI (nmW v) := (tk.1 _ _ (fun z => by have := z.2; omega)).trans h7
  have t9 : mi Mt (ad 54) 9 = nI k := (tk.1 _ _ (fun z => by have := z.2; omega)).trans h9
  have d' : ¬ ad 57 = ad 54 := fun z => by have := hI _ _ z; omega
  have tt := tend8 (E := E) hv t6 t7 a4
  refine ⟨fun q' hp => ?_, fun hp => ?_⟩
  · obtain ⟨p1, rfl⟩ := en_some hp
    obtain ⟨k1, k2⟩ := tok_end p1
    have ct : CH ad Mt 200 h pi := CH_54 ho.2.2.1 (fun n n1 n2 j => tk.1 _ _ (fun z => n1 (hI _ _ z.1))) tk.2 ch
    obtain ⟨Ms, es, cs, os⟩ := hset Mt ct t6 (fun j => tk.1 _ _ (fun z => d' z.1))
    have s3 : mi Ms (ad 54) 3 = nI (sk B t q + 1) := (os.1 54 (by decide) 3).trans (a3.trans (by rw [k2]))
    have s9 : mi Ms (ad 54) 9 = nI k := (os.1 54 (by decide) 9).trans t9
    have m9 : mi (wi Ms (ad 54) 6 (-1)) (ad 54) 9 = nI k := by rw [mi_wi, if_neg (fun z => absurd z.2 (by decide))]; exact s9
    rw [if_pos k1, es, Option.bind_some, m9, nI_1] at tt
    have f1 : Fr8 ad Ms (wi Ms (ad 54) 6 (-1)) := Fr8_wi hI (Or.inl ⟨rfl, by decide⟩)
    have f2 : Fr8 ad (wi Ms (ad 54) 6 (-1)) (wi (wi Ms (ad 54) 6 (-1)) (ad 54) 9 (nI (k + 1))) := Fr8_wi hI (Or.inl ⟨rfl, by decide⟩)
    have fa := (Fr8_tk hI tk).tr ((Fr8_off os).tr (f1.tr f2))
    refine ⟨_, (st nf _ _ tt).trans (if_neg I10), T8_fr fa T, ?_, ?_, ?_, CH_54 ho'.2.2.1 (fun n n1 n2 j => ?_) (f1.tr f2).2.2 cs, fr.tr fa⟩
    · rw [mi_wi, if_neg (fun z => absurd z.2 (by decide)), mi_wi, if_neg (fun z => absurd z.2 (by decide)), s3]
    · rw [mi_wi, if_neg (fun z => absurd z.2 (by decide)), mi_wi, if_pos ⟨rfl, rfl⟩]
    · rw [mi_wi, if_pos ⟨rfl, rfl⟩]
    · rw [mi_wi, if_neg (fun z => n1 (hI _ _ z.1)), mi_wi, if_neg (fun z => n1 (hI _ _ z.1))]
  · rw [if_neg (tok_nend (en_none hp))] at tt
    refine ⟨Mt, ?_, fr.tr (Fr8_tk hI tk)⟩
    rw [st nf _ _ tt, if_pos rfl, a2]
theorem beg_step (hN : Nm E (ad 50) (ad 0) ad) (ho : okH h) {c q k : Nat} (hk : k < 1000) (hc : c ≤ q) (hq : q ≤ t) (I : Be8 ad M0 M B t q k h pi) : (0 < k → t ≤ sk B t q → ∃ M', Lc E ad c M = some (nI k, M') ∧ CH ad M' 200 h pi ∧ Fr8 ad M0 M') ∧ (∀ v, wdI B t (sk B t q) = nI v → v < 6 → (v = 0 ↔ k = 0) → ¬ (v = 1 ∧ oP h = 6) → ∃ M', Lc E ad c M = Lc E ad (c + 1) M' ∧ In8 ad M0 M' B t (rn B t 97 122 (sk B t q)) v 0 k h pi) ∧ ((k = 0 ∨ ¬ t ≤ sk B t q) → (wdI B t (sk B t q) = -1 ∨ ∃ v, v < 6 ∧ wdI B t (sk B t q) = nI v ∧ (¬ (v = 0 ↔ k = 0) ∨ (v = 1 ∧ oP h = 6))) → ∃ M', Lc E ad c M = some (-10 - nI (sk B t q), M') ∧ Fr8 ad M0 M') := by
  have hI := hN.2.2.1
  obtain ⟨T, h3, h6, h9, ch, fr⟩ := I
  obtain ⟨Mt, tk, a2, a3, a4, a5, sf, st⟩ := Lc_step hN T hc hq h3
  have t6 : mi Mt (ad 54) 6 = -1 := (tk.1 _ _ (fun z => by have := z.2; omega)).trans h6
  have t9 : mi Mt (ad 54) 9 = nI k := (tk.1 _ _ (fun z => by have := z.2; omega)).trans h9
  have tP : mi Mt (ad 200) 0 = nI (oP h) := (tk.1 _ _ (fun z => by have := hI _ _ z.1; omega)).trans ch.1.1
  have ct : CH ad Mt 200 h pi := CH_54 ho.2.2.1 (fun n n1 n2 j => tk.1 _ _ (fun z => n1 (hI _ _ z.1))) tk.2 ch
  have tt := tbeg8 (E := E) (show k < 2 ^ 31 by omega) ho.1.1 t6 t9 a4 a5 tP
  have kk : (mi M (ad 54) 9 ≤ 0) = (k = 0) := by
    rw [h9]
    exact propext ⟨fun z => by
      rcases (show k = 0 ∨ 0 < k by omega) with y | y
      · exact y
      · exact absurd z (nI_nle y (by omega)), fun z => by rw [z]; decide⟩
  refine ⟨fun h0 ht => ?_, fun v hw hv e1 e2 => ?_, fun hz hw => ?_⟩
  · refine ⟨Mt, ?_, ct, fr.tr (Fr8_tk hI tk)⟩
    rw [sf ⟨tok_fin ht, h6, by rw [kk]; omega⟩, h9]
  · have hne : ¬ wdI B t (sk B t q) = -1 := by rw [hw]; exact nIm1 (by omega)
    obtain ⟨k1, k2, k3, k4, k5⟩ := tok_word hne
    have v0 : (nI v = 0) = (v = 0) := nIe0 (by omega)
    have v1 : (nI v = 1) = (v = 1) := nIe (b := 1) (by omega) (by decide)
    have nf : ¬ (tS B t (sk B t q) = 0 ∧ mi M (ad 54) 6 = -1 ∧ ¬ mi M (ad 54) 9 ≤ 0) := fun z => by
      rw [k2] at z; exact absurd z.1 (by decide)
    rw [k3, hw] at tt
    simp only [v0, v1] at tt
    rw [if_pos ⟨k2, e1, e2⟩] at tt
    have f1 : Fr8 ad Mt (wi Mt (ad 54) 6 (nI v)) := Fr8_wi hI (Or.inl ⟨rfl, by decide⟩)
    have f2 : Fr8 ad (wi Mt (ad 54) 6 (nI v)) (wi (wi Mt (ad 54) 6 (nI v)) (ad 54) 7 0) := Fr8_wi hI (Or.inl ⟨rfl, by decide⟩)
    have fa := (Fr8_tk hI tk).tr (f1.tr f2)
    refine ⟨_, (st nf _ _ tt).trans (if_neg I10), T8_fr fa T, ?_, ?_, ?_, ?_, CH_54 ho.2.2.1 (fun n n1 n2 j => ?_) (f1.tr f2).2.2 ct, fr.tr fa⟩
    · rw [mi_wi, if_neg (fun z => absurd z.2 (by decide)), mi_wi, if_neg (fun z => absurd z.2 (by decide)), a3, k4]
    · rw [mi_wi, if_neg (fun z => absurd z.2 (by decide)), mi_wi, if_pos ⟨rfl, rfl⟩]
    · rw [mi_wi, if_pos ⟨rfl, rfl⟩]; rfl
    · rw [mi_wi, if_neg (fun z => absurd z.2 (by decide)), mi_wi, if_neg (fun z => absurd z.2 (by decide)), t9]
    · rw [mi_wi, if_neg (fun z => n1 (hI _ _ z.1)), mi_wi, if_neg (fun z => n1 (hI _ _ z.1))]
  · have nf : ¬ (tS B t (sk B t q) = 0 ∧ mi M (ad 54) 6 = -1 ∧ ¬ mi M (ad 54) 9 ≤ 0) := fun z => by
      rw [kk] at z
      rcases hz with y | y
      · exact z.2.2 y
      · exact tok_nfin y z.1
    have hn : ¬ (tS B t (sk B t q) = 1 ∧ (tV B t (sk B t q) = 0 ↔ k = 0) ∧ ¬ (tV B t (sk B t q) = 1 ∧ oP h = 6)) := fun z => by
      rcases hw with y | ⟨v, hv, y, y2⟩
      · exact tok_nword y z.1
      · have hne : ¬ wdI B t (sk B t q) = -1 := by rw [y]; exact nIm1 (by omega)
        obtain ⟨k1, k2, k3, k4, k5⟩ := tok_word hne
        have v0 : (nI v = 0) = (v = 0) := nIe0 (by omega)
        have v1 : (nI v = 1) = (v = 1) := nIe (b := 1) (by omega) (by decide)
        rw [k3, y, v0, v1] at z
        rcases y2 with y2 | y2
        · exact y2 z.2.1
        · exact z.2.2 y2
    rw [if_neg hn] at tt
    refine ⟨Mt, ?_, fr.tr (Fr8_tk hI tk)⟩
    rw [st nf _ _ tt, if_pos rfl, a2]
end Al60
