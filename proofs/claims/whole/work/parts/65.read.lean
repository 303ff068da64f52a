/-! the reference's whole text, and both -/
section Al65
variable {E : Env1} {ad : Nat → Nat} {M0 M M1 M2 : Mem} {B : Nat → Nat} {t : Nat} {h h' : Ho}
theorem passN_T : ∀ n (s : Sd), sT (passN n s) ≤ sT s + n := by
  intro n
  induction n with
  | zero => intro s; exact Nat.le_refl _
  | succ n ih =>
    intro s
    show sT (if 9999 ≤ sT s then s else passN n (passS s)) ≤ _
    split
    · omega
    · have := ih (passS s)
      have e1 : sT (passS s) = sT s + 1 := rfl
      omega
theorem wdI_5 {s : Nat} (e : wdI B t s = 5) : rn B t 97 122 s - s = 7 := by
  unfold wdI at e
  (repeat' split at e) <;> first | assumption | exact absurd e (by decide)
theorem item_ok {q z v a b q' : Nat} (ho : okH h) (hq : q ≤ t) (e : itemP B t (oP h) q = (z, some (v, a, b, q'))) : okH (eff h v a b) ∧ (oU h = 0 → oU (eff h v a b) = 0) ∧ (sT (oS h) ≤ 11 * q → sT (oS (eff h v a b)) ≤ 11 * q') := by
  have hp := ho.1.1
  have hs : sk B t q ≤ t := sk_le hq
  have h1 := sk_ge B t q
  have h2 : sk B t q ≤ rn B t 97 122 (sk B t q) := rnF_ge _ _ _ _ _ _
  have he : rn B t 97 122 (sk B t q) ≤ t := rnF_le _ _ _ _ _ _ hs
  have na : ∀ {P : Prop} {x y : Nat}, x ≠ y → x = y → P := fun n e => absurd e n
  unfold itemP at e
  split at e
  · split at e
    · have := (Prod.mk.inj e).2; cases this
    · rename_i hP
      obtain ⟨rfl, e'⟩ := tag_s e
      obtain ⟨g1, g2, e1, e2, p1, g3, g4, p2, g5, g6, -⟩ := two_q he e'
      have ra := pn_N (n := 5) he rfl (by decide) p1
      have rb := pn_N (n := 12) g3 rfl (by decide) p2
      refine ⟨okH_eff ho (fun _ => ⟨by omega, by omega, rb⟩) (na (by decide)) (na (by decide)) (na (by decide)), fun _ => rfl, fun z => ?_⟩
      show sT (oS h) ≤ 11 * q'
      omega
  · split at e
    · obtain ⟨rfl, e'⟩ := tag_s e
      obtain ⟨g1, g2, e1, e2, p1, g3, g4, p2, g5, g6, -⟩ := two_q he e'
      have ra := pn_P he hp p1
      have rb := pn_N (n := 7) g3 rfl (by decide) p2
      refine ⟨okH_eff ho (na (by decide)) (fun _ => ⟨ra, by omega⟩) (na (by decide)) (na (by decide)), fun z => z, fun z => ?_⟩
      show sT (oS h) ≤ 11 * q'
      omega
    · split at e
      · obtain ⟨rfl, e'⟩ := tag_s e
        obtain ⟨g1, g2, -, e1, p1, g3, g4, -⟩ := one_q he e'
        have ra := pn_N (n := 6) he rfl (by decide) p1
        refine ⟨okH_eff ho (na (by decide)) (na (by decide)) (fun _ => ra) (na (by decide)), fun z => z, fun z => ?_⟩
        show sT (oS h) ≤ 11 * q'
        omega
      · split at e
        · obtain ⟨rfl, e'⟩ := tag_s e
          obtain ⟨g1, g2, e1, e2, p1, g3, g4, p2, g5, g6, -⟩ := two_q he e'
          have ra := pn_P he hp p1
          have rb := pn_N (n := 8) g3 rfl (by decide) p2
          refine ⟨okH_eff ho (na (by decide)) (na (by decide)) (na (by decide)) (fun _ => ⟨ra, rb⟩), fun z => z, fun z => ?_⟩
          show sT (oS h) ≤ 11 * q'
          omega
        · split at e
          · rename_i h5
            obtain ⟨rfl, e'⟩ := tag_s e
            obtain ⟨g1, g2, -, e1, p1, g3, g4, p2⟩ := one_q he e'
            have ra := pn_99 p1
            have w7 := wdI_5 h5
            obtain ⟨-, rfl⟩ := en_some p2
            have := sk_ge B t e1
            refine ⟨okH_eff ho (na (by decide)) (na (by decide)) (na (by decide)) (na (by decide)), fun z => z, fun z => ?_⟩
            have := passN_T a (oS h)
            show sT (passN a (oS h)) ≤ _
            omega
          · have := (Prod.mk.inj e).2; cases this
theorem item9 (hN : Nm E (ad 50) (ad 0) ad) (ho : okH h) (T : T9 ad M B t) {q : Nat} (hT : sT (oS h) ≤ 11 * q) (hq : q ≤ t) (h17 : mi M (ad 0) 17 = nI (sk B t q)) (hb : IB (lv ad M) h) : (∀ p, itemP B t (oP h) q = (p, none) → ∃ M', f_X9_readsItem E M (ad 0) = some (0, M') ∧ mi M' (ad 0) 17 = nI p ∧ Fr9 ad M M') ∧ ∀ z v a b q', itemP B t (oP h) q = (z, some (v, a, b, q')) → ∃ M', f_X9_readsItem E M (ad 0) = some (1, M') ∧ mi M' (ad 0) 17 = nI q' ∧ Fr9 ad M M' ∧ IB (lv ad M') (eff h v a b) := by
  have hI := hN.2.2.1
  have hp := ho.1.1
  have h150 := T.1
  have hs : sk B t q ≤ t := sk_le hq
  have h2 : sk B t q ≤ rn B t 97 122 (sk B t q) := rnF_ge _ _ _ _ _ _
  have he : rn B t 97 122 (sk B t q) ≤ t := rnF_le _ _ _ _ _ _ hs
  have r0 := RO_of hp hb
  have ka : Cu ad M (wi M (ad 0) 17 (nI (rn B t 97 122 (sk B t q)))) := Cu_wi (by omega)
  have Ta := T9_cu hI ka T
  have a17 : mi (wi M (ad 0) 17 (nI (rn B t 97 122 (sk B t q)))) (ad 0) 17 = nI (rn B t 97 122 (sk B t q)) := by rw [mi_wi, if_pos ⟨rfl, rfl⟩]
  have ba := IB_cu hI ka hb
  have fa := Fr9_cu hI ka
  have fault : itemP B t (oP h) q = (sk B t q, none) → f_X9_readsItem E M (ad 0) = some (0, M) → (∀ p, itemP B t (oP h) q = (p, none) → ∃ M', f_X9_readsItem E M (ad 0) = some (0, M') ∧ mi M' (ad 0) 17 = nI p ∧ Fr9 ad M M') ∧ ∀ z v a b q', itemP B t (oP h) q = (z, some (v, a, b, q')) → ∃ M', f_X9_readsItem E M (ad 0) = some (1, M') ∧ mi M' (ad 0) 17 = nI q' ∧ Fr9 ad M M' ∧ IB (lv ad M') (eff h v a b) := fun e f => by
    rw [e]
    refine ⟨fun p hp => ?_, fun z v a b q' hp => ?_⟩
    · obtain ⟨rfl, -⟩ := Prod.mk.inj hp
      exact ⟨M, f, h17, Fr9.rf⟩
    · have := (Prod.mk.inj hp).2; cases this
  have lift : ∀ (v : Nat) (x : Nat × Option (Nat × Nat × Nat)) (R : Option (Int32 × Mem)), itemP B t (oP h) q = tag v x → f_X9_readsItem E M (ad 0) = R → ((∀ p, x = (p, none) → ∃ M', R = some (0, M') ∧ mi M' (ad 0) 17 = nI p ∧ Fr9 ad (wi M (ad 0) 17 (nI (rn B t 97 122 (sk B t q)))) M') ∧ ∀ z a b q', x = (z, some (a, b, q')) → ∃ M', R = some (1, M') ∧ mi M' (ad 0) 17 = nI q' ∧ Fr9 ad (wi M (ad 0) 17 (nI (rn B t 97 122 (sk B t q)))) M' ∧ IB (lv ad M') (eff h v a b)) → (∀ p, itemP B t (oP h) q = (p, none) → ∃ M', f_X9_readsItem E M (ad 0) = some (0, M') ∧ mi M' (ad 0) 17 = nI p ∧ Fr9 ad M M') ∧ ∀ z v a b q', itemP B t (oP h) q = (z, some (v, a, b, q')) → ∃ M', f_X9_readsItem E M (ad 0) = some (1, M') ∧ mi M' (ad 0) 17 = nI q' ∧ Fr9 ad M M' ∧ IB (lv ad M') (eff h v a b) := fun v x R e1 e2 r => by
    rw [e1, e2]
    refine ⟨fun p hp => ?_, fun z v' a b q' hp => ?_⟩
    · obtain ⟨M', r1, r2, r3⟩ := r.1 p (tag_n hp)
      exact ⟨M', r1, r2, fa.tr r3⟩
    · obtain ⟨rfl, hx⟩ := tag_s hp
      obtain ⟨M', r1, r2, r3, r4⟩ := r.2 z a b q' hx
      exact ⟨M', r1, r2, fa.tr r3, r4⟩
  have e26 : ∀ v, f_X9_readsItem_L26 E M (ad 0) v = (if v = (1 : Int32) then f_X9_readsOne E (wi M (ad 0) 17 (nI (rn B t 97 122 (sk B t q)))) (ad 0) else if v = (3 : Int32) then f_X9_readsCarpet E (wi M (ad 0) 17 (nI (rn B t 97 122 (sk B t q)))) (ad 0) else if v = (5 : Int32) then f_X9_readsMinutes E (wi M (ad 0) 17 (nI (rn B t 97 122 (sk B t q)))) (ad 0) else f_X9_readsWhere E (wi M (ad 0) 17 (nI (rn B t 97 122 (sk B t q)))) (ad 0) (if v = (2 : Int32) then (1 : Int32) else (0 : Int32))) := fun v => by
    unfold f_X9_readsItem_L26
    have bi : ∀ X : Option (Int32 × Mem), X.bind (fun x => some (x.1, x.2)) = X := fun X => by cases X <;> rfl
    rw [size9 hN T hs h17, Option.bind_some, h17, nI_add, show sk B t q + (rn B t 97 122 (sk B t q) - sk B t q) = rn B t 97 122 (sk B t q) by omega, bi, bi, bi, bi]
  have e0 : f_X9_readsItem E M (ad 0) = (if wdI B t (sk B t q) < (1 : Int32) then (some ((0 : Int32), M)) else (if wdI B t (sk B t q) = (1 : Int32) then (if nI (oP h) = (6 : Int32) then (some ((0 : Int32), M)) else (f_X9_readsItem_L26 E M (ad 0) (wdI B t (sk B t q)))) else (f_X9_readsItem_L26 E M (ad 0) (wdI B t (sk B t q))))) := by
    unfold f_X9_readsItem
    rw [here9w hN T hs h17, Option.bind_some, r0.1]
  rcases wdI_vals B t (sk B t q) with hw | ⟨v, hv, hw⟩
  · refine fault ?_ ?_
    · unfold itemP
      rw [hw, if_neg (by decide), if_neg (by decide), if_neg (by decide), if_neg (by decide), if_neg (by decide)]
    · rw [e0, hw, if_pos (by decide)]
  · rcases (show v = 0 ∨ v = 1 ∨ v = 2 ∨ v = 3 ∨ v = 4 ∨ v = 5 by omega) with rfl | rfl | rfl | rfl | rfl | rfl
    · refine fault ?_ ?_
      · unfold itemP
        rw [hw, if_neg (by decide), if_neg (by decide), if_neg (by decide), if_neg (by decide), if_neg (by decide)]
      · rw [e0, hw, if_pos (by decide)]
    · by_cases hP : oP h = 6
      · refine fault ?_ ?_
        · unfold itemP
          rw [hw, if_pos (by decide), if_pos hP]
        · rw [e0, hw, if_neg (by decide), if_pos (by decide), hP, if_pos (by decide)]
      · refine lift 1 _ _ ?_ ?_ (one9 hN ho Ta he (by omega) a17 ba)
        · unfold itemP
          rw [hw, if_pos (by decide), if_neg hP]
        · rw [e0, hw, if_neg (by decide), if_pos (by decide), if_neg (show ¬ nI (oP h) = (6 : Int32) from fun z => hP ((nI_eq (b := 6) (by omega) (by decide)).mp z)), e26, if_pos (by decide)]
    · refine lift 2 _ _ ?_ ?_ (where9 hN ho Ta (v := 2) (Or.inl ⟨rfl, rfl, rfl⟩) he a17 ba)
      · unfold itemP
        rw [hw, if_neg (by decide), if_pos (by decide)]
      · rw [e0, hw, if_neg (by decide), if_neg (by decide), e26, if_neg (by decide), if_neg (by decide), if_neg (by decide), if_pos (by decide)]
    · refine lift 3 _ _ ?_ ?_ ⟨(carpet9 hN ho Ta he a17 ba).1, fun z a b q' hx => ?_⟩
      · unfold itemP
        rw [hw, if_neg (by decide), if_neg (by decide), if_pos (by decide)]
      · rw [e0, hw, if_neg (by decide), if_neg (by decide), e26, if_neg (by decide), if_pos (by decide)]
      · exact (carpet9 hN ho Ta he a17 ba).2 z a b q' hx
    · refine lift 4 _ _ ?_ ?_ (where9 hN ho Ta (v := 4) (Or.inr ⟨rfl, rfl, rfl⟩) he a17 ba)
      · unfold itemP
        rw [hw, if_neg (by decide), if_neg (by decide), if_neg (by decide), if_pos (by decide)]
      · rw [e0, hw, if_neg (by decide), if_neg (by decide), e26, if_neg (by decide), if_neg (by decide), if_neg (by decide), if_neg (by decide)]
    · have m9 := minutes9 hN ho (by omega) Ta he a17 ba
      refine lift 5 _ _ ?_ ?_ ⟨m9.1, fun z a b q' hx => ?_⟩
      · unfold itemP
        rw [hw, if_neg (by decide), if_neg (by decide), if_neg (by decide), if_neg (by decide), if_pos (by decide)]
      · rw [e0, hw, if_neg (by decide), if_neg (by decide), e26, if_neg (by decide), if_neg (by decide), if_pos (by decide)]
      · exact m9.2 z a b q' hx
theorem run9 (hN : Nm E (ad 50) (ad 0) ad) : ∀ n q k f (M : Mem) (h : Ho), t - q < n → t - q < f → q ≤ t → sT (oS h) ≤ 11 * q → okH h → oU h = 0 → T9 ad M B t → mi M (ad 0) 17 = nI (sk B t q) → IB (lv ad M) h → (∀ p, runP B t n q k h = (p, none) → ∃ M', f_X9_readsHouse_L20 E f M (ad 0) (nI k) = some (-1, M') ∧ mi M' (ad 0) 17 = nI p ∧ Fr9 ad M M') ∧ ∀ z k' h', runP B t n q k h = (z, some (k', h')) → ∃ M', f_X9_readsHouse_L20 E f M (ad 0) (nI k) = some (nI k', M') ∧ Fr9 ad M M' ∧ IB (lv ad M') h' ∧ okH h' ∧ oU h' = 0 := by
  intro n
  induction n with
  | zero => intro q k f M h hn; omega
  | succ n ih =>
    intro q k f M h hn hf hq hT ho hU T h17 hb
    have hI := hN.2.2.1
    have h150 := T.1
    have hs : sk B t q ≤ t := sk_le hq
    obtain ⟨f, rfl⟩ : ∃ f', f = f' + 1 := ⟨f - 1, by omega⟩
    have eL : f_X9_readsHouse_L20 E (f + 1) M (ad 0) (nI k) = b_X9_readsHouse_L20 E (f_X9_readsHouse_L20 E f) M (ad 0) (nI k) := rfl
    rw [eL]
    unfold b_X9_readsHouse_L20 runP
    rw [T.2.1, h17]
    by_cases l : t ≤ sk B t q
    · rw [if_pos l, if_pos (nI_le (a := t) l (by omega))]
      refine ⟨fun p hp => ?_, fun z k' h' hp => ?_⟩
      · have := (Prod.mk.inj hp).2; cases this
      · obtain ⟨rfl, rfl⟩ := Prod.mk.inj (Option.some.inj (Prod.mk.inj hp).2)
        exact ⟨M, rfl, Fr9.rf, hb, ho, hU⟩
    · rw [if_neg l, if_neg (nI_ge (a := sk B t q) (b := t) (by omega) (by omega))]
      obtain ⟨i1, i2⟩ := item9 hN ho T hT hq h17 hb
      cases e : itemP B t (oP h) q with
      | mk z x =>
        cases x with
        | none =>
          refine ⟨fun p hp => ?_, fun z k' h' hp => ?_⟩
          · have hp : (z, (none : Option (Nat × Ho))) = (p, none) := hp
            obtain ⟨rfl, -⟩ := Prod.mk.inj hp
            obtain ⟨M', e1, e2, e3⟩ := i1 _ e
            rw [e1, Option.bind_some, if_pos rfl]
            exact ⟨M', rfl, e2, e3⟩
          · have := (Prod.mk.inj hp).2; cases this
        | some y =>
          obtain ⟨v, a, b, q'⟩ := y
          obtain ⟨M', e1, e2, e3, e4⟩ := i2 z v a b q' e
          obtain ⟨g1, g2⟩ := item_q hq e
          obtain ⟨o1, o2, o3⟩ := item_ok ho hq e
          have T' := T9_fr e3 T
          obtain ⟨Ms, s1, s2, s3⟩ := skip9 hN T' g2 e2
          dsimp only
          rw [e1, Option.bind_some, if_neg I10, s1, Option.bind_some, nI_1]
          obtain ⟨r1, r2⟩ := ih q' (k + 1) f Ms (eff h v a b) (by omega) (by omega) g2 (o3 hT) o1 (o2 hU) (T9_cu hI s3 T') s2 (IB_cu hI s3 e4)
          have fr := e3.tr (Fr9_cu hI s3)
          refine ⟨fun p hp => ?_, fun z k' h' hp => ?_⟩
          · obtain ⟨Mf, f1, f2, f3⟩ := r1 p hp
            exact ⟨Mf, f1, f2, fr.tr f3⟩
          · obtain ⟨Mf, f1, f2, f3, f4, f5⟩ := r2 z k' h' hp
            exact ⟨Mf, f1, fr.tr f2, f3, f4, f5⟩
/-! the first item -/
def Fs (ad : Nat → Nat) (M M1 : Mem) : Prop := (∀ n, n ≠ 0 → n ≠ 11 → ∀ k, mi M1 (ad n) k = mi M (ad n) k) ∧ (∀ k, k ≠ 17 → k ≠ 18 → mi M1 (ad 0) k = mi M (ad 0) k) ∧ M1.2 = M.2
theorem Fs.rf : Fs ad M M := ⟨fun _ _ _ _ => rfl, fun _ _ _ => rfl, rfl⟩
theorem Fs.tr (a : Fs ad M M1) (b : Fs ad M1 M2) : Fs ad M M2 := ⟨fun n h1 h2 k => (b.1 n h1 h2 k).trans (a.1 n h1 h2 k), fun k h1 h2 => (b.2.1 k h1 h2).trans (a.2.1 k h1 h2), b.2.2.trans a.2.2⟩
theorem Fs_cu (hI : ∀ n n', ad n = ad n' → n = n') (a : Cu ad M M1) : Fs ad M M1 := ⟨fun n h1 _ k => a.1 _ _ (fun z => h1 (hI _ _ z.1)), fun k h1 h2 => a.1 _ _ (fun z => by have := z.2; omega), a.2⟩
theorem Fs_fr (a : Fs ad M M1) : Fr9 ad M M1 := ⟨⟨fun n hn k => a.1 n (by omega) (by omega) k, a.2.1 16 (by decide) (by decide), congrArg (fun z => z.2) a.2.2, fun k _ => ⟨congrArg (fun z => z.1 (ad 0) k) a.2.2, congrArg (fun z => z.1 (ad 50) (k - 19)) a.2.2⟩⟩, fun k => a.1 19 (by decide) (by decide) k⟩
theorem nums9 (hN : Nm E (ad 50) (ad 0) ad) : ∀ r q f n (M : Mem), r ≤ 8 → r < n → T9 ad M B t → q ≤ t → mi M (ad 0) 17 = nI q → (∀ j, j < 8 - r → mi M (ad 11) j = nI (f j)) → (∀ j, f j < 6) → (∀ p, numsP B t r q f = (p, none) → ∃ M', f_X9_readsFirst_L32 E n M (ad 0) (nI (8 - r)) = some (0, M') ∧ mi M' (ad 0) 17 = nI p ∧ Fs ad M M') ∧ ∀ z f' q1, numsP B t r q f = (z, some (f', q1)) → ∃ Mw, f_X9_readsFirst_L32 E n M (ad 0) (nI (8 - r)) = f_X9_ends E Mw (ad 0) ∧ mi Mw (ad 0) 17 = nI q1 ∧ Fs ad M Mw ∧ (∀ j, j < 8 → mi Mw (ad 11) j = nI (f' j)) ∧ q1 ≤ t ∧ ∀ j, f' j < 6 := by
  intro r
  induction r with
  | zero =>
    intro q f n M _ hn T hq h17 hf hf6
    obtain ⟨n, rfl⟩ : ∃ n', n = n' + 1 := ⟨n - 1, by omega⟩
    have eL : f_X9_readsFirst_L32 E (n + 1) M (ad 0) (nI (8 - 0)) = f_X9_ends E M (ad 0) := by
      show b_X9_readsFirst_L32 E (f_X9_readsFirst_L32 E n) M (ad 0) (nI 8) = _
      unfold b_X9_readsFirst_L32
      rw [if_pos (by decide)]
      cases f_X9_ends E M (ad 0) <;> rfl
    rw [eL]
    refine ⟨fun p hp => ?_, fun z f' q1 hp => ?_⟩
    · have := (Prod.mk.inj hp).2; cases this
    · obtain ⟨rfl, rfl⟩ := Prod.mk.inj (Option.some.inj (Prod.mk.inj hp).2)
      exact ⟨M, rfl, h17, Fs.rf, hf, hq, hf6⟩
  | succ r ih =>
    intro q f n M hr hn T hq h17 hf hf6
    have hI := hN.2.2.1
    have d : ∀ a b, a ≠ b → ¬ ad a = ad b := fun a b h z => h (hI _ _ z)
    obtain ⟨n, rfl⟩ : ∃ n', n = n' + 1 := ⟨n - 1, by omega⟩
    have e8 : 8 - (r + 1) = 7 - r := by omega
    rw [e8] at hf ⊢
    have eL : f_X9_readsFirst_L32 E (n + 1) M (ad 0) (nI (7 - r)) = b_X9_readsFirst_L32 E (f_X9_readsFirst_L32 E n) M (ad 0) (nI (7 - r)) := rfl
    rw [eL]
    unfold b_X9_readsFirst_L32 numsP
    rw [if_neg (lt8 (by omega))]
    obtain ⟨s1, s2⟩ := number9 hN T 0 5 hq h17
    cases e : pn B t 0 5 q with
    | none =>
      refine ⟨fun p hp => ?_, fun z f' q1 hp => ?_⟩
      · obtain ⟨rfl, -⟩ := Prod.mk.inj hp
        obtain ⟨Ma, ea, a17, ka⟩ := s2 e
        rw [ea, Option.bind_some, if_pos rfl]
        exact ⟨Ma, rfl, a17, Fs_cu hI ka⟩
      · have := (Prod.mk.inj hp).2; cases this
    | some y =>
      obtain ⟨a, e1⟩ := y
      obtain ⟨Ma, ea, a17, a18, ka⟩ := s1 a e1 e
      obtain ⟨-, -, -, -, -, g0, g1, -⟩ := pn_some hq e
      have ra := pn_N (n := 5) hq rfl (by decide) e
      have fw : Fs ad Ma (wi Ma (ad 11) (7 - r) (nI a)) := ⟨fun n h1 h2 k => by rw [mi_wi, if_neg (fun z => h2 (hI _ _ z.1))], fun k _ _ => by rw [mi_wi, if_neg (fun z => d _ _ (by decide) z.1)], rfl⟩
      have fall := (Fs_cu hI ka).tr fw
      dsimp only
      rw [ea, Option.bind_some, if_neg I10, gd_nI (by omega) (by decide), ix_nI (by omega), n_11 hN, a18, nI_1, show 7 - r + 1 = 8 - r by omega]
      obtain ⟨i1, i2⟩ := ih e1 (upN f (7 - r) a) n (wi Ma (ad 11) (7 - r) (nI a)) (by omega) (by omega) (T9_fr (Fs_fr fall) T) g1 (by rw [mi_wi, if_neg (fun z => d _ _ (by decide) z.1)]; exact a17) (fun j hj => by
        unfold upN
        rw [mi_wi]
        by_cases e2 : j = 7 - r
        · rw [if_pos ⟨rfl, e2⟩, if_pos e2]
        · rw [if_neg (fun z => e2 z.2), if_neg e2, ka.1 _ _ (fun z => d _ _ (by decide) z.1)]
          exact hf j (by omega)) (fun j => by
        unfold upN
        split
        · omega
        · exact hf6 j)
      refine ⟨fun p hp => ?_, fun z f' q1 hp => ?_⟩
      · obtain ⟨M', f1, f2, f3⟩ := i1 p hp
        exact ⟨M', f1, f2, fall.tr f3⟩
      · obtain ⟨Mw, f1, f2, f3, f4, f5, f6⟩ := i2 z f' q1 hp
        exact ⟨Mw, f1, f2, fall.tr f3, f4, f5, f6⟩
theorem first9 (hN : Nm E (ad 50) (ad 0) ad) (T : T9 ad M B t) (h17 : mi M (ad 0) 17 = nI 0) : (∀ p, firstP B t = (p, none) → ∃ M', f_X9_readsFirst E M (ad 0) = some (0, M') ∧ mi M' (ad 0) 17 = nI p ∧ Fr9 ad M M') ∧ ∀ z f q', firstP B t = (z, some (f, q')) → ∃ M', f_X9_readsFirst E M (ad 0) = some (1, M') ∧ mi M' (ad 0) 17 = nI q' ∧ Fr9 ad M M' ∧ IB (lv ad M') (kh f) ∧ ∀ j, f j < 6 := by
  have hI := hN.2.2.1
  have h150 := T.1
  have d : ∀ a b, a ≠ b → ¬ ad a = ad b := fun a b h z => h (hI _ _ z)
  obtain ⟨Ma, ea, a17, ka⟩ := skip9 hN T (Nat.zero_le t) h17
  have hs : sk B t 0 ≤ t := sk_le (Nat.zero_le _)
  have h2 : sk B t 0 ≤ rn B t 97 122 (sk B t 0) := rnF_ge _ _ _ _ _ _
  have he : rn B t 97 122 (sk B t 0) ≤ t := rnF_le _ _ _ _ _ _ hs
  have Ta := T9_cu hI ka T
  unfold f_X9_readsFirst firstP
  rw [ea, Option.bind_some, here9w hN Ta hs a17, Option.bind_some]
  by_cases e0 : wdI B t (sk B t 0) = 0
  · rw [if_pos e0, if_pos e0, size9 hN Ta hs a17, Option.bind_some, a17, nI_add, show sk B t 0 + (rn B t 97 122 (sk B t 0) - sk B t 0) = rn B t 97 122 (sk B t 0) by omega]
    have kb : Cu ad Ma (wi Ma (ad 0) 17 (nI (rn B t 97 122 (sk B t 0)))) := Cu_wi (by omega)
    obtain ⟨Mb, eb, bb, mb, b17, bn⟩ := begin9_sp hN ho0 (wi Ma (ad 0) 17 (nI (rn B t 97 122 (sk B t 0))))
    have fb : Fr9 ad M Mb := (Fr9_cu hI (ka.tr kb)).tr ⟨mb, fun k => bn 19 (by decide) (by decide) k⟩
    have c17 : mi Mb (ad 0) 17 = nI (rn B t 97 122 (sk B t 0)) := (b17 17 (Or.inl rfl)).trans (by rw [mi_wi, if_pos ⟨rfl, rfl⟩])
    obtain ⟨n1, n2⟩ := nums9 hN 8 (rn B t 97 122 (sk B t 0)) (fun _ => 0) FU Mb (Nat.le_refl _) (by unfold FU; omega) (T9_fr fb T) he c17 (fun j hj => by omega) (fun _ => by decide)
    rw [eb, Option.bind_some]
    have e8 : f_X9_readsFirst_L32 E FU Mb (ad 0) (nI (8 - 8)) = f_X9_readsFirst_L32 E FU Mb (ad 0) 0 := rfl
    rw [e8] at n1 n2
    cases e : numsP B t 8 (rn B t 97 122 (sk B t 0)) (fun _ => 0) with
    | mk z x =>
      cases x with
      | none =>
        refine ⟨fun p hp => ?_, fun p f' q' hp => ?_⟩
        · have hp : (z, (none : Option ((Nat → Nat) × Nat))) = (p, none) := hp
          obtain ⟨rfl, -⟩ := Prod.mk.inj hp
          obtain ⟨M', f1, f2, f3⟩ := n1 _ e
          exact ⟨M', f1, f2, fb.tr (Fs_fr f3)⟩
        · have := (Prod.mk.inj hp).2; cases this
      | some y =>
        obtain ⟨f, q⟩ := y
        obtain ⟨Mw, f1, w17, fw, w11, hq, f6⟩ := n2 _ _ _ e
        have fall := fb.tr (Fs_fr fw)
        obtain ⟨x1, x2⟩ := ends9 hN (T9_fr fall T) hq w17
        have r2 := RO_of (show oP (newH ho0) ≤ 6 from Nat.zero_le _) bb
        have bw : IB (lv ad Mw) (kh f) := IB_withS bb (lv_same (fun k hk => fw.2.1 k (by omega) (by omega)) (fun n hn k => fw.1 n (by omega) (by omega) k)) ((ML_BS (Nat.zero_le _)).mpr ⟨(fw.2.1 2 (by decide) (by decide)).trans r2.2.2.2.1, (fw.2.1 3 (by decide) (by decide)).trans r2.2.2.2.2.1, fun i hi => absurd hi (Nat.not_lt_zero i), fun i hi => absurd hi (Nat.not_lt_zero i), w11⟩)
        dsimp only
        rw [f1]
        cases e3 : en B t q with
        | none =>
          refine ⟨fun p hp => ?_, fun p f' q' hp => ?_⟩
          · obtain ⟨rfl, -⟩ := Prod.mk.inj hp
            obtain ⟨Mc, ec, c17, kc⟩ := x2 e3
            exact ⟨Mc, ec, c17, fall.tr (Fr9_cu hI kc)⟩
          · have := (Prod.mk.inj hp).2; cases this
        | some q' =>
          refine ⟨fun p hp => ?_, fun p f' q'' hp => ?_⟩
          · have := (Prod.mk.inj hp).2; cases this
          · obtain ⟨rfl, rfl⟩ := Prod.mk.inj (Option.some.inj (Prod.mk.inj hp).2)
            obtain ⟨Mc, ec, c17, kc⟩ := x1 _ e3
            exact ⟨Mc, ec, c17, fall.tr (Fr9_cu hI kc), IB_cu hI kc bw, f6⟩
  · rw [if_neg e0, if_neg e0]
    refine ⟨fun p hp => ?_, fun p f' q' hp => ?_⟩
    · obtain ⟨rfl, -⟩ := Prod.mk.inj hp
      exact ⟨Ma, rfl, a17, Fr9_cu hI ka⟩
    · have := (Prod.mk.inj hp).2; cases this
theorem house9 (hN : Nm E (ad 50) (ad 0) ad) (T : T9 ad M B t) : (∀ p, fullP B t = (p, none) → ∃ M', f_X9_readsHouse E M (ad 0) = some (-1, M') ∧ mi M' (ad 0) 17 = nI p ∧ Fr9 ad M M') ∧ ∀ z k' h', fullP B t = (z, some (k', h')) → ∃ M', f_X9_readsHouse E M (ad 0) = some (nI k', M') ∧ Fr9 ad M M' ∧ IB (lv ad M') h' ∧ okH h' ∧ oU h' = 0 := by
  have hI := hN.2.2.1
  have k0 : Cu ad M (wi M (ad 0) 17 0) := Cu_wi (by omega)
  have T0 := T9_cu hI k0 T
  obtain ⟨f1, f2⟩ := first9 hN T0 (show mi (wi M (ad 0) 17 0) (ad 0) 17 = nI 0 by rw [mi_wi, if_pos ⟨rfl, rfl⟩]; rfl)
  obtain ⟨-, q2⟩ := first_q (B := B) (t := t)
  unfold f_X9_readsHouse fullP
  cases e : firstP B t with
  | mk z x =>
    cases x with
    | none =>
      refine ⟨fun p hp => ?_, fun z k' h' hp => ?_⟩
      · have hp : (z, (none : Option (Nat × Ho))) = (p, none) := hp
        obtain ⟨rfl, -⟩ := Prod.mk.inj hp
        obtain ⟨M', g1, g2, g3⟩ := f1 _ e
        rw [g1, Option.bind_some, if_pos rfl]
        exact ⟨M', rfl, g2, (Fr9_cu hI k0).tr g3⟩
      · have := (Prod.mk.inj hp).2; cases this
    | some y =>
      obtain ⟨f, q⟩ := y
      obtain ⟨M', g1, g2, g3, g4, f6⟩ := f2 _ _ _ e
      have hq := q2 _ _ _ e
      have fr := (Fr9_cu hI k0).tr g3
      obtain ⟨Ms, s1, s2, s3⟩ := skip9 hN (T9_fr fr T) hq.2 g2
      have frs := fr.tr (Fr9_cu hI s3)
      obtain ⟨r1, r2⟩ := run9 (B := B) (t := t) hN 151 q 1 FU Ms (kh f) (by have := T.1; omega) (by have := T.1; unfold FU; omega) hq.2 (Nat.zero_le _) (okH_kh f6) rfl (T9_fr frs T) s2 (IB_cu hI s3 g4)
      dsimp only
      rw [g1, Option.bind_some, if_neg I10, s1, Option.bind_some]
      refine ⟨fun p hp => ?_, fun z k' h' hp => ?_⟩
      · obtain ⟨Mf, e1, e2, e3⟩ := r1 p hp
        exact ⟨Mf, e1, e2, frs.tr e3⟩
      · obtain ⟨Mf, e1, e2, e3⟩ := r2 z k' h' hp
        exact ⟨Mf, e1, frs.tr e2, e3⟩
theorem read9 (hN : Nm E (ad 50) (ad 0) ad) (ho : okH h) (T : T9 ad M B t) (hb : IB (lv ad M) h) : (∀ p, fullP B t = (p, none) → ∃ M', f_X9_read E M (ad 0) = some (-10 - nI p, M') ∧ Mo ad M M' ∧ IB (lv ad M') h) ∧ ∀ z k' h', fullP B t = (z, some (k', h')) → k' ≤ 150 → ∃ M', f_X9_read E M (ad 0) = some (nI k', M') ∧ Mo ad M M' ∧ IB (lv ad M') h' := by
  have hI := hN.2.2.1
  have d : ∀ a b, a ≠ b → ¬ ad a = ad b := fun a b h z => h (hI _ _ z)
  have la := layAll_eq hN (T := 19) (o := 0) (n1 := 300) (Or.inl rfl) (by decide) (by decide) M
  have ma : Mo ad M (upR M (ad 19) 0 281 (lv ad M)) := Mo_upR hI (by omega)
  have Ta : T9 ad (upR M (ad 19) 0 281 (lv ad M)) B t := ⟨T.1, ma.2.1.trans T.2.1, fun i hi => ⟨(ma.1 15 (by decide) i).trans (T.2.2 i hi).1, (T.2.2 i hi).2⟩⟩
  obtain ⟨h1, h2⟩ := house9 hN Ta
  unfold f_X9_read
  rw [n_19 hN, ← nI_0, la, Option.bind_some]
  refine ⟨fun p hp => ?_, fun z k' h' hp hk => ?_⟩
  · obtain ⟨Mf, e1, e2, e3⟩ := h1 p hp
    rw [e1, Option.bind_some, if_neg (show ¬ nI 0 ≤ (-1 : Int32) by decide), takeAll_eq hN (T := 19) (o := 0) (n1 := 300) (Or.inl rfl) (by decide) (by decide) Mf, Option.bind_some]
    obtain ⟨mt, mt2⟩ := Mo_ta hI Mf 19 0
    rw [mt2 17 (Or.inl rfl), e2]
    refine ⟨_, rfl, ma.tr (e3.1.tr mt), IB_congr ho (fun k hk => ?_) hb⟩
    rw [lv_ta hI Mf 19 0 k hk, e3.2, mi_upR, if_pos ⟨rfl, by omega, by omega⟩, Nat.zero_add, Nat.sub_zero]
  · obtain ⟨Mf, e1, e2, e3, e4, e5⟩ := h2 z k' h' hp
    have l21 := (LV_of e4 e3).2.1
    rw [e5] at l21
    have em : wi Mf (ad 0) 21 (nI 0) = Mf := mem_ext (fun q j => by
      rw [mi_wi]
      by_cases g : q = ad 0 ∧ j = 21
      · rw [if_pos g, g.1, g.2]; exact l21.symm
      · rw [if_neg g]) (fun _ _ => rfl) (fun _ _ => rfl)
    rw [e1, Option.bind_some, if_pos (show nI 0 ≤ nI k' from nI_le (Nat.zero_le _) (by omega)), em]
    exact ⟨Mf, rfl, ma.tr e2.1, e3⟩
theorem Img_x (k1 : ∀ n, (n = 27 ∨ n = 28 ∨ n = 53 ∨ 300 ≤ n) → ∀ k, mi M1 (ad n) k = mi M (ad n) k) (k2 : ∀ n, 300 ≤ n → ∀ k, mr M1 (ad n) k = mr M (ad n) k) (u : Img ad M) : Img ad M1 := by
  intro i hi
  obtain ⟨h1, ⟨pi, h2⟩, h3⟩ := u i hi
  refine ⟨(k1 53 (by omega) i).trans (h1.trans (k1 28 (by omega) i).symm), ⟨pi, PM_sm (fun j => k2 _ (by omega) j) h2⟩, ?_⟩
  rcases h3 with h3 | ⟨g, pi, g1, g2, g3⟩
  · exact Or.inl ((k1 53 (by omega) i).trans h3)
  · refine Or.inr ⟨g, pi, g1, CH_sm g1.2.2.1 (fun n hn j => ⟨k1 n (by omega) j, k2 n (by omega) j⟩) g2, ?_⟩
    have e : (fun j => mi M1 (ad 27) (300 * i + j)) = fun j => mi M (ad 27) (300 * i + j) := funext fun j => k1 27 (by omega) _
    rw [e]
    exact g3
theorem neg10 : ∀ p, p < 151 → (-10 : Int32) - nI p ≤ 0 := by decide +kernel
end Al65
section Al65b
variable {E : Env1} {x m : Nat} {M : Mem}
theorem ok_read (hI : Inv E x m M) : al_read Inv E x m M := by
  obtain ⟨ad, h, pi, hN, ho, hc, hb, k1, k2, k3, k4, k5⟩ := id hI
  obtain ⟨rfl, rfl⟩ : m = ad 0 ∧ x = ad 50 := ⟨hN.1.symm, hN.2.1.symm⟩
  have r := RO_of ho.1.1 hb
  have hH := hn_of hN (H := 100) (Or.inl rfl)
  have hS := sn_of hN (H := 100) (Or.inl rfl)
  have hT : sT (oS h) < 2 ^ 31 := by have := ho.2.1; omega
  have hp : oP h ≤ 6 := ho.1.1
  have hI' := hN.2.2.1
  have hP : ∀ j, j < 8 → SN E ad (100 + 16 + 4 * j) := fun j hj => (sp_of hN (H := 100) (Or.inl rfl) hj).1
  obtain ⟨t, t1, t2, t3, t4⟩ := id k3
  obtain ⟨pd, pm⟩ := id k5
  have hB : ∃ B : Nat → Nat, T8 ad M B t ∧ T9 ad M B t := by
    refine ⟨fun i => ix (mi M (ad 15) i), ⟨t1, t2, fun i hi => ?_⟩, ⟨t1, t3, fun i hi => ?_⟩⟩
    · obtain ⟨e1, c, hc, e2⟩ := t4 i hi
      show mi M (ad 56) i = nI (ix (mi M (ad 15) i)) ∧ ix (mi M (ad 15) i) < 128
      rw [e1, e2, ix_nI (by omega)]
      exact ⟨rfl, hc⟩
    · obtain ⟨e1, c, hc, e2⟩ := t4 i hi
      show mi M (ad 15) i = nI (ix (mi M (ad 15) i)) ∧ ix (mi M (ad 15) i) < 128
      rw [e2, ix_nI (by omega)]
      exact ⟨rfl, hc⟩
  obtain ⟨B, TA, TB⟩ := hB
  obtain ⟨a1, a2⟩ := readInto8 hN TA pm
  -- how both leave the invariant
  have last : ∀ (r : Int32) (M1 M2 : Mem) (h' : Ho) (pi' : Nat → Nat), f_X8_read E M (ad 50) = some (r, M1) → f_X9_read E M1 (ad 0) = some (r, M2) → okH h' → CH ad M1 100 h' pi' → IB (lv ad M2) h' → Mo ad M1 M2 → (∀ n, n ≠ 54 → n ≠ 57 → (n < 100 ∨ 216 ≤ n) → ∀ k, mi M1 (ad n) k = mi M (ad n) k) → mi M1 (ad 54) 0 = mi M (ad 54) 0 → (∀ n, 200 ≤ n → ∀ k, mr M1 (ad n) k = mr M (ad n) k) → M1.2.1 = M.2.1 → ∃ (r : Int32) (M1 M2 : Mem), f_X8_read E M (ad 50) = some (r, M1) ∧ f_X9_read E M1 (ad 0) = some (r, M2) ∧ Inv E (ad 50) (ad 0) M2 := fun r M1 M2 h' pi' e1 e2 ho' c' b' mo f1 f2 f3 f4 => by
    refine ⟨r, M1, M2, e1, e2, ad, h', pi', hN, ho', CH_sm ho'.2.2.1 (fun n hn k => ⟨mo.1 n (by omega) k, congrArg (fun z => z (ad n) k) mo.2.2.1⟩) c', b', fun c hc => ?_, ⟨?_, ?_⟩, ⟨t, t1, ?_, ?_, fun i hi => ?_⟩, Img_x (fun n hn k => (mo.1 n (by omega) k).trans (f1 n (by omega) (by omega) (by omega) k)) (fun n hn k => (congrArg (fun z => z (ad n) k) mo.2.2.1).trans (f3 n (by omega) k)) k4, ⟨pd, PM_sm (fun k => (congrArg (fun z => z (ad 205) k) mo.2.2.1).trans (f3 205 (by decide) k)) pm⟩⟩
    · rw [mo.1 50 (by decide), f1 50 (by decide) (by decide) (by decide), mo.1 1 (by decide), f1 1 (by decide) (by decide) (by decide)]
      exact k1 c hc
    · rw [(mo.2.2.2 25 (Or.inl rfl)).1, show ml M1 (ad 0) 25 = ml M (ad 0) 25 from congrArg (fun z => z (ad 0) 25) f4, ← k2.1, ← show ml M1 (ad 50) 6 = ml M (ad 50) 6 from congrArg (fun z => z (ad 50) 6) f4]
      exact (mo.2.2.2 25 (Or.inl rfl)).2
    · rw [(mo.2.2.2 26 (Or.inr rfl)).1, show ml M1 (ad 0) 26 = ml M (ad 0) 26 from congrArg (fun z => z (ad 0) 26) f4, ← k2.2, ← show ml M1 (ad 50) 7 = ml M (ad 50) 7 from congrArg (fun z => z (ad 50) 7) f4]
      exact (mo.2.2.2 26 (Or.inr rfl)).2
    · rw [mo.1 54 (by decide), f2]; exact t2
    · rw [mo.2.1, f1 0 (by decide) (by decide) (by decide)]; exact t3
    · rw [mo.1 56 (by decide), f1 56 (by decide) (by decide) (by decide), mo.1 15 (by decide), f1 15 (by decide) (by decide) (by decide)]
      exact t4 i hi
  have T9b : ∀ M1 : Mem, (∀ n, n ≠ 54 → n ≠ 57 → (n < 100 ∨ 216 ≤ n) → ∀ k, mi M1 (ad n) k = mi M (ad n) k) → T9 ad M1 B t := fun M1 f => ⟨TB.1, (f 0 (by decide) (by decide) (by decide) 16).trans TB.2.1, fun i hi => ⟨(f 15 (by decide) (by decide) (by decide) i).trans (TB.2.2 i hi).1, (TB.2.2 i hi).2⟩⟩
  have IBb : ∀ M1 : Mem, (∀ n, n ≠ 54 → n ≠ 57 → (n < 100 ∨ 216 ≤ n) → ∀ k, mi M1 (ad n) k = mi M (ad n) k) → IB (lv ad M1) h := fun M1 f => IB_mu (fun n hn k => f n (by omega) (by omega) (by omega) k) hb
  cases e : fullP B t with
  | mk z y =>
    cases y with
    | none =>
      obtain ⟨M1, e1, f1⟩ := a1 _ e
      have hz := full_p e
      have ff : ∀ n, n ≠ 54 → n ≠ 57 → (n < 100 ∨ 216 ≤ n) → ∀ k, mi M1 (ad n) k = mi M (ad n) k := fun n n1 n2 n3 k => f1.1 n n1 n2 (by omega) k
      obtain ⟨M2, e2, mo, b2⟩ := (read9 hN ho (T9b M1 ff) (IBb M1 ff)).1 _ e
      refine last _ M1 M2 h pi ?_ e2 ho (CH_sm ho.2.2.1 (fun n hn k => ⟨f1.1 n (by omega) (by omega) (by omega) k, congrArg (fun z => z.2 (ad n) k) f1.2.2⟩) hc) b2 mo ff f1.2.1 (fun n _ k => congrArg (fun z => z.2 (ad n) k) f1.2.2) (congrArg (fun z => z.1) f1.2.2)
      unfold f_X8_read
      rw [n_54 hN, n_200 hN, e1, Option.bind_some, if_pos (neg10 z (by omega))]
    | some y =>
      obtain ⟨k', h'⟩ := y
      obtain ⟨Ma, e1, k0, k150, ho', ca, fa⟩ := a2 _ _ _ e
      have pm1 : PM ad Ma 100 pi := PM_sm (fun k => congrArg (fun z => z.2 (ad 105) k) fa.2.2) hc.2.2.2.2.2.1
      obtain ⟨M1, e3, c1, o1⟩ := copyFrom_sp hN (H := 100) (H' := 200) (Or.inl rfl) (Or.inr (Or.inl rfl)) (by decide) ho' pm1 ca
      have ff : ∀ n, n ≠ 54 → n ≠ 57 → (n < 100 ∨ 216 ≤ n) → ∀ k, mi M1 (ad n) k = mi M (ad n) k := fun n n1 n2 n3 k => (o1.1 n (by omega) k).trans (fa.1 n n1 n2 (by omega) k)
      obtain ⟨M2, e2, mo, b2⟩ := (read9 hN ho (T9b M1 ff) (IBb M1 ff)).2 _ _ _ e k150
      refine last (nI k') M1 M2 h' pi ?_ e2 ho' c1 b2 mo ff ((o1.1 54 (by decide) 0).trans fa.2.1) (fun n _ k => (o1.mr _ _).trans (congrArg (fun z => z.2 (ad n) k) fa.2.2)) ((congrArg (fun z => z.1) o1.2).trans (congrArg (fun z => z.1) fa.2.2))
      unfold f_X8_read
      rw [n_54 hN, n_200 hN, n_100 hN, e1, Option.bind_some, if_neg (nI_nle k0 (by omega)), e3]
      rfl
end Al65b
