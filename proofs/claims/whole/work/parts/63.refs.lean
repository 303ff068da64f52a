/-! the reference's tokens -/
section Al63
variable {E : Env1} {ad : Nat → Nat} {M M1 M2 : Mem} {B : Nat → Nat} {t : Nat} {h : Ho}
def T9 (ad : Nat → Nat) (M : Mem) (B : Nat → Nat) (t : Nat) : Prop := t ≤ 150 ∧ mi M (ad 0) 16 = nI t ∧ ∀ i, i < t → mi M (ad 15) i = nI (B i) ∧ B i < 128
def Cu (ad : Nat → Nat) (M M1 : Mem) : Prop := (∀ q k, ¬ (q = ad 0 ∧ (k = 17 ∨ k = 18)) → mi M1 q k = mi M q k) ∧ M1.2 = M.2
theorem Cu.rf : Cu ad M M := ⟨fun _ _ _ => rfl, rfl⟩
theorem Cu.tr (a : Cu ad M M1) (b : Cu ad M1 M2) : Cu ad M M2 := ⟨fun q k h => (b.1 q k h).trans (a.1 q k h), b.2.trans a.2⟩
theorem Cu_wi {k : Nat} {v : Int32} (h : k = 17 ∨ k = 18) : Cu ad M (wi M (ad 0) k v) := ⟨fun q j z => by rw [mi_wi, if_neg (fun (y : q = ad 0 ∧ j = k) => z ⟨y.1, by rw [y.2]; exact h⟩)], rfl⟩
theorem T9_cu (hI : ∀ n n', ad n = ad n' → n = n') (a : Cu ad M M1) (T : T9 ad M B t) : T9 ad M1 B t := ⟨T.1, (a.1 _ _ (fun z => by have := z.2; omega)).trans T.2.1, fun i hi => ⟨(a.1 _ _ (fun z => by have := hI _ _ z.1; omega)).trans (T.2.2 i hi).1, (T.2.2 i hi).2⟩⟩
theorem here9 (hN : Nm E (ad 50) (ad 0) ad) (T : T9 ad M B t) {q : Nat} (hq : q ≤ 300) (h17 : mi M (ad 0) 17 = nI q) : f_X9_here E M (ad 0) = some (if q < t then nI (B q) else -1) := by
  have h150 := T.1
  unfold f_X9_here
  rw [T.2.1, h17]
  by_cases e : q < t
  · rw [if_neg (nI_ge (a := q) (b := t) e (by omega)), if_pos e, gd_nI (by omega) (by decide), ix_nI (by omega), n_15 hN, (T.2.2 q e).1]
  · rw [if_pos (nI_le (a := t) (b := q) (by omega) (by omega)), if_neg e]
theorem skipL (hN : Nm E (ad 50) (ad 0) ad) : ∀ f n q (M : Mem), T9 ad M B t → q ≤ t → t - q < f → t - q < n → mi M (ad 0) 17 = nI q → ∃ M', f_X9_skip_L0 E n M (ad 0) = some M' ∧ mi M' (ad 0) 17 = nI (rnF B t 32 32 f q) ∧ Cu ad M M' := by
  intro f
  induction f with
  | zero => intro n q M _ _ h; omega
  | succ f ih =>
    intro n q M T hq hf hn h17
    have h150 := T.1
    obtain ⟨n, rfl⟩ : ∃ n', n = n' + 1 := ⟨n - 1, by omega⟩
    show ∃ M', b_X9_skip_L0 E (f_X9_skip_L0 E n) M (ad 0) = some M' ∧ mi M' (ad 0) 17 = nI (if q < t ∧ 32 ≤ B q ∧ B q ≤ 32 then rnF B t 32 32 f (q + 1) else q) ∧ _
    unfold b_X9_skip_L0
    rw [here9 hN T (by omega) h17, Option.bind_some]
    by_cases e : q < t
    · have hB := (T.2.2 q e).2
      have i32 : (nI (B q) = (32 : Int32)) = (B q = 32) := nIe (b := 32) (by omega) (by decide)
      rw [if_pos e]
      simp only [i32]
      by_cases g : B q = 32
      · rw [if_pos g, if_pos ⟨e, by omega, by omega⟩, h17, nI_1]
        have k : Cu ad M (wi M (ad 0) 17 (nI (q + 1))) := Cu_wi (by omega)
        obtain ⟨M', e1, e2, e3⟩ := ih n (q + 1) _ (T9_cu hN.2.2.1 k T) (by omega) (by omega) (by omega) (by rw [mi_wi, if_pos ⟨rfl, rfl⟩])
        exact ⟨M', e1, e2, k.tr e3⟩
      · rw [if_neg g, if_neg (fun z => g (by omega))]
        exact ⟨M, rfl, h17, Cu.rf⟩
    · rw [if_neg e, if_neg (by decide), if_neg (fun z => e z.1)]
      exact ⟨M, rfl, h17, Cu.rf⟩
theorem skip9 (hN : Nm E (ad 50) (ad 0) ad) (T : T9 ad M B t) {q : Nat} (hq : q ≤ t) (h17 : mi M (ad 0) 17 = nI q) : ∃ M', f_X9_skip E M (ad 0) = some M' ∧ mi M' (ad 0) 17 = nI (sk B t q) ∧ Cu ad M M' := skipL hN 151 FU q M T hq (by have := T.1; omega) (by have := T.1; unfold FU; omega) h17
theorem ends9 (hN : Nm E (ad 50) (ad 0) ad) (T : T9 ad M B t) {q : Nat} (hq : q ≤ t) (h17 : mi M (ad 0) 17 = nI q) : (∀ q', en B t q = some q' → ∃ M', f_X9_ends E M (ad 0) = some (1, M') ∧ mi M' (ad 0) 17 = nI q' ∧ Cu ad M M') ∧ (en B t q = none → ∃ M', f_X9_ends E M (ad 0) = some (0, M') ∧ mi M' (ad 0) 17 = nI (sk B t q) ∧ Cu ad M M') := by
  have h150 := T.1
  obtain ⟨Ma, ea, a17, ka⟩ := skip9 hN T hq h17
  have hs : sk B t q ≤ t := sk_le hq
  have Ta := T9_cu hN.2.2.1 ka T
  unfold f_X9_ends
  rw [ea, Option.bind_some, here9 hN Ta (by omega) a17, Option.bind_some, a17, nI_1]
  refine ⟨fun q' hp => ?_, fun hp => ?_⟩
  · obtain ⟨g, rfl⟩ := en_some hp
    rw [if_pos g.1, g.2, if_pos (by decide)]
    exact ⟨_, rfl, by rw [mi_wi, if_pos ⟨rfl, rfl⟩], ka.tr (Cu_wi (by omega))⟩
  · have g := en_none hp
    have hne : ¬ (if sk B t q < t then nI (B (sk B t q)) else -1) = (59 : Int32) := fun z => by
      by_cases l : sk B t q < t
      · rw [if_pos l] at z
        exact g ⟨l, (nI_eq (b := 59) (by have := (Ta.2.2 _ l).2; omega) (by decide)).mp z⟩
      · rw [if_neg l] at z
        exact absurd z (by decide)
    rw [if_neg hne]
    exact ⟨Ma, rfl, a17, ka⟩
theorem in_nI (E : Env1) (M : Mem) {a b c : Nat} (ha : a < 2 ^ 31) (hb : b < 2 ^ 31) (hc : c < 2 ^ 31) : f_X9_in E M (nI a) (nI b) (nI c) = if b ≤ a ∧ a ≤ c then 1 else 0 := by
  rw [in9_eq]
  simp only [nI_leI hb ha, nI_leI ha hc]
theorem nv_s (s : Nat) {k : Nat} (hk : 2 ≤ k) : nv B s (k + 1) = nv B s k := by
  unfold nv
  rw [if_neg (by omega), if_neg (by omega), if_neg (by omega), if_neg (by omega)]
theorem num9L (hN : Nm E (ad 50) (ad 0) ad) (T : T9 ad M B t) {s : Nat} {lo hi : Int32} (h17 : mi M (ad 0) 17 = nI s) : ∀ f k n, s + k ≤ t → t - (s + k) < f → t - (s + k) < n → f_X9_number_L9 E n M (ad 0) lo hi (nI k) (nI (nv B s k)) = f_X9_number_L77 E M (ad 0) lo hi (nI (rnF B t 48 57 f (s + k) - s)) (nI (nv B s (rnF B t 48 57 f (s + k) - s))) := by
  intro f
  induction f with
  | zero => intro k n _ h; omega
  | succ f ih =>
    intro k n hk hf hn
    have h150 := T.1
    obtain ⟨n, rfl⟩ : ∃ n', n = n' + 1 := ⟨n - 1, by omega⟩
    show b_X9_number_L9 E (f_X9_number_L9 E n) M (ad 0) lo hi (nI k) (nI (nv B s k)) = f_X9_number_L77 E M (ad 0) lo hi (nI ((if s + k < t ∧ 48 ≤ B (s + k) ∧ B (s + k) ≤ 57 then rnF B t 48 57 f (s + k + 1) else s + k) - s)) (nI (nv B s ((if s + k < t ∧ 48 ≤ B (s + k) ∧ B (s + k) ≤ 57 then rnF B t 48 57 f (s + k + 1) else s + k) - s)))
    unfold b_X9_number_L9
    rw [T.2.1, h17, nI_add]
    by_cases e : s + k < t
    · have hB := (T.2.2 _ e).2
      have hd : f_X9_isFigure E M (nI (B (s + k))) = if 48 ≤ B (s + k) ∧ B (s + k) ≤ 57 then 1 else 0 := in_nI E M (b := 48) (c := 57) (by omega) (by decide) (by decide)
      rw [if_neg (nI_ge (a := s + k) (b := t) e (by omega)), gd_nI (by omega) (by decide), ix_nI (by omega), n_15 hN, (T.2.2 _ e).1, hd, nI_1]
      by_cases g : 48 ≤ B (s + k) ∧ B (s + k) ≤ 57
      · rw [if_pos g, if_neg I10, if_pos (show s + k < t ∧ 48 ≤ B (s + k) ∧ B (s + k) ≤ 57 from ⟨e, g⟩)]
        by_cases k2 : 2 ≤ k
        · rw [if_pos (show (2 : Int32) ≤ nI k from nI_le (a := 2) k2 (by omega)), ← nv_s s k2]
          exact ih (k + 1) n (by omega) (by omega) (by omega)
        · rw [if_neg (show ¬ (2 : Int32) ≤ nI k from nI_ge (a := k) (b := 2) (by omega) (by decide)), nm_v, fig _ _ g.1]
          have ev : 10 * nv B s k + (B (s + k) - 48) = nv B s (k + 1) := by
            rcases (show k = 0 ∨ k = 1 by omega) with rfl | rfl
            · unfold nv
              rw [if_pos rfl, if_neg (by omega), if_pos (by omega)]
              show 10 * 0 + (B s - 48) = B s - 48
              omega
            · unfold nv
              rw [if_neg (by omega), if_pos rfl, if_neg (by omega), if_neg (by omega)]
          rw [ev]
          exact ih (k + 1) n (by omega) (by omega) (by omega)
      · rw [if_neg g, if_pos rfl, if_neg (show ¬ (s + k < t ∧ 48 ≤ B (s + k) ∧ B (s + k) ≤ 57) from fun z => g z.2), show s + k - s = k by omega]
    · rw [if_pos (nI_le (a := t) (b := s + k) (by omega) (by omega)), if_neg (show ¬ (s + k < t ∧ 48 ≤ B (s + k) ∧ B (s + k) ≤ 57) from fun z => e z.1), show s + k - s = k by omega]
theorem number9 (hN : Nm E (ad 50) (ad 0) ad) (T : T9 ad M B t) {q : Nat} (lo hi : Int32) (hq : q ≤ t) (h17 : mi M (ad 0) 17 = nI q) : (∀ a e, pn B t lo hi q = some (a, e) → ∃ M', f_X9_number E M (ad 0) lo hi = some (1, M') ∧ mi M' (ad 0) 17 = nI e ∧ mi M' (ad 0) 18 = nI a ∧ Cu ad M M') ∧ (pn B t lo hi q = none → ∃ M', f_X9_number E M (ad 0) lo hi = some (0, M') ∧ mi M' (ad 0) 17 = nI (sk B t q) ∧ Cu ad M M') := by
  have h150 := T.1
  obtain ⟨Ma, ea, a17, ka⟩ := skip9 hN T hq h17
  have hs : sk B t q ≤ t := sk_le hq
  have Ta := T9_cu hN.2.2.1 ka T
  have hle : rn B t 48 57 (sk B t q) ≤ t := rnF_le _ _ _ _ _ _ hs
  have hge : sk B t q ≤ rn B t 48 57 (sk B t q) := rnF_ge _ _ _ _ _ _
  have e1 : f_X9_number E M (ad 0) lo hi = f_X9_number_L77 E Ma (ad 0) lo hi (nI (rn B t 48 57 (sk B t q) - sk B t q)) (nI (nv B (sk B t q) (rn B t 48 57 (sk B t q) - sk B t q))) := by
    unfold f_X9_number
    rw [ea, Option.bind_some]
    exact num9L hN Ta a17 151 0 FU (by omega) (by omega) (by unfold FU; omega)
  rw [e1]
  unfold f_X9_number_L77 pn
  have w12 : f_X9_in E Ma (nI (rn B t 48 57 (sk B t q) - sk B t q)) (1 : Int32) (2 : Int32) = if 1 ≤ rn B t 48 57 (sk B t q) - sk B t q ∧ rn B t 48 57 (sk B t q) - sk B t q ≤ 2 then 1 else 0 := in_nI E Ma (b := 1) (c := 2) (by omega) (by decide) (by decide)
  rw [w12, in9_eq]
  by_cases g1 : 1 ≤ rn B t 48 57 (sk B t q) - sk B t q ∧ rn B t 48 57 (sk B t q) - sk B t q ≤ 2
  · rw [if_pos g1, if_neg I10]
    by_cases g2 : lo ≤ nI (nv B (sk B t q) (rn B t 48 57 (sk B t q) - sk B t q)) ∧ nI (nv B (sk B t q) (rn B t 48 57 (sk B t q) - sk B t q)) ≤ hi
    · rw [if_pos g2, if_neg I10, if_pos ⟨g1, g2⟩]
      refine ⟨fun a e hp => ?_, fun hp => by cases hp⟩
      obtain ⟨rfl, rfl⟩ := Prod.mk.inj (Option.some.inj hp)
      have m17 : mi (wi Ma (ad 0) 18 (nI (nv B (sk B t q) (rn B t 48 57 (sk B t q) - sk B t q)))) (ad 0) 17 = nI (sk B t q) := by rw [mi_wi, if_neg (fun z => absurd z.2 (by decide))]; exact a17
      rw [m17, nI_add, show sk B t q + (rn B t 48 57 (sk B t q) - sk B t q) = rn B t 48 57 (sk B t q) by omega]
      exact ⟨_, rfl, by rw [mi_wi, if_pos ⟨rfl, rfl⟩], by rw [mi_wi, if_neg (fun z => absurd z.2 (by decide)), mi_wi, if_pos ⟨rfl, rfl⟩], ka.tr ((Cu_wi (by omega)).tr (Cu_wi (by omega)))⟩
    · rw [if_neg g2, if_pos rfl, if_neg (fun z => g2 z.2)]
      exact ⟨fun a e hp => (by cases hp), fun _ => ⟨Ma, rfl, a17, ka⟩⟩
  · rw [if_neg g1, if_pos rfl, if_neg (fun z => g1 z.1)]
    exact ⟨fun a e hp => (by cases hp), fun _ => ⟨Ma, rfl, a17, ka⟩⟩
theorem size9L (hN : Nm E (ad 50) (ad 0) ad) (T : T9 ad M B t) {s : Nat} (h17 : mi M (ad 0) 17 = nI s) : ∀ f k n, s + k ≤ t → t - (s + k) < f → t - (s + k) < n → f_X9_wordSize_L2 E M n (ad 0) (nI k) = some (nI (rnF B t 97 122 f (s + k) - s)) := by
  intro f
  induction f with
  | zero => intro k n _ h; omega
  | succ f ih =>
    intro k n hk hf hn
    have h150 := T.1
    obtain ⟨n, rfl⟩ : ∃ n', n = n' + 1 := ⟨n - 1, by omega⟩
    show b_X9_wordSize_L2 E M (f_X9_wordSize_L2 E M n) (ad 0) (nI k) = some (nI ((if s + k < t ∧ 97 ≤ B (s + k) ∧ B (s + k) ≤ 122 then rnF B t 97 122 f (s + k + 1) else s + k) - s))
    unfold b_X9_wordSize_L2
    rw [T.2.1, h17, nI_add]
    by_cases e : s + k < t
    · have hB := (T.2.2 _ e).2
      have hd : f_X9_isLetter E M (nI (B (s + k))) = if 97 ≤ B (s + k) ∧ B (s + k) ≤ 122 then 1 else 0 := in_nI E M (b := 97) (c := 122) (by omega) (by decide) (by decide)
      rw [if_neg (nI_ge (a := s + k) (b := t) e (by omega)), gd_nI (by omega) (by decide), ix_nI (by omega), n_15 hN, (T.2.2 _ e).1, hd, nI_1]
      by_cases g : 97 ≤ B (s + k) ∧ B (s + k) ≤ 122
      · rw [if_pos g, if_neg I10, if_pos ⟨e, g⟩]
        exact ih (k + 1) n (by omega) (by omega) (by omega)
      · rw [if_neg g, if_pos rfl, if_neg (show ¬ (s + k < t ∧ 97 ≤ B (s + k) ∧ B (s + k) ≤ 122) from fun z => g z.2), show s + k - s = k by omega]
    · rw [if_pos (nI_le (a := t) (b := s + k) (by omega) (by omega)), if_neg (show ¬ (s + k < t ∧ 97 ≤ B (s + k) ∧ B (s + k) ≤ 122) from fun z => e z.1), show s + k - s = k by omega]
theorem size9 (hN : Nm E (ad 50) (ad 0) ad) (T : T9 ad M B t) {s : Nat} (hs : s ≤ t) (h17 : mi M (ad 0) 17 = nI s) : f_X9_wordSize E M (ad 0) = some (nI (rn B t 97 122 s - s)) := by
  have := size9L hN T h17 151 0 FU (by omega) (by have := T.1; omega) (by have := T.1; unfold FU; omega)
  exact this
theorem ite2 {α : Type} {a b : Prop} [Decidable a] [Decidable b] (u v : α) : (if a then (if b then u else v) else v) = if a ∧ b then u else v := by
  by_cases ha : a <;> by_cases hb : b <;> simp [ha, hb]
theorem letter9 (hN : Nm E (ad 50) (ad 0) ad) (T : T9 ad M B t) {s j : Nat} (h17 : mi M (ad 0) 17 = nI s) (hj : s + j < t) : f_X9_letter E M (ad 0) (nI j) = some (nI (B (s + j))) := by
  have h150 := T.1
  unfold f_X9_letter
  rw [h17, nI_add, gd_nI (by omega) (by decide), ix_nI (by omega), n_15 hN, (T.2.2 _ hj).1]
theorem here9w (hN : Nm E (ad 50) (ad 0) ad) (T : T9 ad M B t) {s : Nat} (hs : s ≤ t) (h17 : mi M (ad 0) 17 = nI s) : f_X9_wordHere E M (ad 0) = some (wdI B t s) := by
  have h150 := T.1
  have hle : rn B t 97 122 s ≤ t := rnF_le _ _ _ _ _ _ hs
  have hge : s ≤ rn B t 97 122 s := rnF_ge _ _ _ _ _ _
  have hB : ∀ j, s + j < t → B (s + j) < 128 := fun j hj => (T.2.2 _ hj).2
  have L : ∀ j, s + j < t → f_X9_letter E M (ad 0) (nI j) = some (nI (B (s + j))) := fun j hj => letter9 hN T h17 hj
  unfold f_X9_wordHere wdI
  rw [size9 hN T hs h17, Option.bind_some]
  generalize hlen : rn B t 97 122 s - s = len
  have hl : s + len ≤ t := by omega
  have il : ∀ c : Nat, c < 8 → (nI len = nI c) = (len = c) := fun c hc => nIe (by omega) (by omega)
  have ic : ∀ j, s + j < t → ∀ c : Nat, c < 128 → (nI (B (s + j)) = nI c) = (B (s + j) = c) := fun j hj c hc => nIe (by have := hB j hj; omega) (by omega)
  have i2 : (nI len = (2 : Int32)) = (len = 2) := il 2 (by decide)
  have i3 : (nI len = (3 : Int32)) = (len = 3) := il 3 (by decide)
  have i5 : (nI len = (5 : Int32)) = (len = 5) := il 5 (by decide)
  have i6 : (nI len = (6 : Int32)) = (len = 6) := il 6 (by decide)
  have i7 : (nI len = (7 : Int32)) = (len = 7) := il 7 (by decide)
  simp only [i2, i3, i5, i6, i7]
  by_cases q2 : len = 2
  · rw [q2] at hl
    clear hlen i2 i3 i5 i6 i7 il
    subst q2
    have l0 : f_X9_letter E M (ad 0) (0 : Int32) = some (nI (B (s + 0))) := L 0 (by omega)
    have l1 : f_X9_letter E M (ad 0) (1 : Int32) = some (nI (B (s + 1))) := L 1 (by omega)
    have c0_97 : (nI (B (s + 0)) = (97 : Int32)) = (B (s + 0) = 97) := ic 0 (by omega) 97 (by decide)
    have c1_116 : (nI (B (s + 1)) = (116 : Int32)) = (B (s + 1) = 116) := ic 1 (by omega) 116 (by decide)
    rw [if_pos (show 2 = 2 from rfl)]
    simp only [l0, l1, Option.bind_some, c0_97, c1_116]
    simp only [ite2]
    simp <;> (repeat' split) <;> simp_all
  by_cases q3 : len = 3
  · rw [q3] at hl
    clear hlen i2 i3 i5 i6 i7 il
    subst q3
    have l0 : f_X9_letter E M (ad 0) (0 : Int32) = some (nI (B (s + 0))) := L 0 (by omega)
    have l1 : f_X9_letter E M (ad 0) (1 : Int32) = some (nI (B (s + 1))) := L 1 (by omega)
    have l2 : f_X9_letter E M (ad 0) (2 : Int32) = some (nI (B (s + 2))) := L 2 (by omega)
    have c0_111 : (nI (B (s + 0)) = (111 : Int32)) = (B (s + 0) = 111) := ic 0 (by omega) 111 (by decide)
    have c1_110 : (nI (B (s + 1)) = (110 : Int32)) = (B (s + 1) = 110) := ic 1 (by omega) 110 (by decide)
    have c2_101 : (nI (B (s + 2)) = (101 : Int32)) = (B (s + 2) = 101) := ic 2 (by omega) 101 (by decide)
    rw [if_neg (show ¬ 3 = 2 by decide), if_pos (show 3 = 3 from rfl)]
    simp only [l0, l1, l2, Option.bind_some, c0_111, c1_110, c2_101]
    simp only [ite2]
    simp <;> (repeat' split) <;> simp_all
  by_cases q5 : len = 5
  · rw [q5] at hl
    clear hlen i2 i3 i5 i6 i7 il
    subst q5
    have l0 : f_X9_letter E M (ad 0) (0 : Int32) = some (nI (B (s + 0))) := L 0 (by omega)
    have l1 : f_X9_letter E M (ad 0) (1 : Int32) = some (nI (B (s + 1))) := L 1 (by omega)
    have l2 : f_X9_letter E M (ad 0) (2 : Int32) = some (nI (B (s + 2))) := L 2 (by omega)
    have l3 : f_X9_letter E M (ad 0) (3 : Int32) = some (nI (B (s + 3))) := L 3 (by omega)
    have l4 : f_X9_letter E M (ad 0) (4 : Int32) = some (nI (B (s + 4))) := L 4 (by omega)
    have c0_104 : (nI (B (s + 0)) = (104 : Int32)) = (B (s + 0) = 104) := ic 0 (by omega) 104 (by decide)
    have c0_107 : (nI (B (s + 0)) = (107 : Int32)) = (B (s + 0) = 107) := ic 0 (by omega) 107 (by decide)
    have c1_110 : (nI (B (s + 1)) = (110 : Int32)) = (B (s + 1) = 110) := ic 1 (by omega) 110 (by decide)
    have c1_111 : (nI (B (s + 1)) = (111 : Int32)) = (B (s + 1) = 111) := ic 1 (by omega) 111 (by decide)
    have c2_111 : (nI (B (s + 2)) = (111 : Int32)) = (B (s + 2) = 111) := ic 2 (by omega) 111 (by decide)
    have c2_117 : (nI (B (s + 2)) = (117 : Int32)) = (B (s + 2) = 117) := ic 2 (by omega) 117 (by decide)
    have c3_115 : (nI (B (s + 3)) = (115 : Int32)) = (B (s + 3) = 115) := ic 3 (by omega) 115 (by decide)
    have c3_119 : (nI (B (s + 3)) = (119 : Int32)) = (B (s + 3) = 119) := ic 3 (by omega) 119 (by decide)
    have c4_101 : (nI (B (s + 4)) = (101 : Int32)) = (B (s + 4) = 101) := ic 4 (by omega) 101 (by decide)
    have c4_115 : (nI (B (s + 4)) = (115 : Int32)) = (B (s + 4) = 115) := ic 4 (by omega) 115 (by decide)
    rw [if_neg (show ¬ 5 = 2 by decide), if_neg (show ¬ 5 = 3 by decide), if_pos (show 5 = 5 from rfl)]
    unfold f_X9_wordHere_L134
    simp only [l0, l1, l2, l3, l4, Option.bind_some, c0_104, c0_107, c1_110, c1_111, c2_111, c2_117, c3_115, c3_119, c4_101, c4_115]
    simp only [ite2]
    simp <;> (repeat' split) <;> simp_all
  by_cases q6 : len = 6
  · rw [q6] at hl
    clear hlen i2 i3 i5 i6 i7 il
    subst q6
    have l0 : f_X9_letter E M (ad 0) (0 : Int32) = some (nI (B (s + 0))) := L 0 (by omega)
    have l1 : f_X9_letter E M (ad 0) (1 : Int32) = some (nI (B (s + 1))) := L 1 (by omega)
    have l2 : f_X9_letter E M (ad 0) (2 : Int32) = some (nI (B (s + 2))) := L 2 (by omega)
    have l3 : f_X9_letter E M (ad 0) (3 : Int32) = some (nI (B (s + 3))) := L 3 (by omega)
    have l4 : f_X9_letter E M (ad 0) (4 : Int32) = some (nI (B (s + 4))) := L 4 (by omega)
    have l5 : f_X9_letter E M (ad 0) (5 : Int32) = some (nI (B (s + 5))) := L 5 (by omega)
    have c0_99 : (nI (B (s + 0)) = (99 : Int32)) = (B (s + 0) = 99) := ic 0 (by omega) 99 (by decide)
    have c1_97 : (nI (B (s + 1)) = (97 : Int32)) = (B (s + 1) = 97) := ic 1 (by omega) 97 (by decide)
    have c2_114 : (nI (B (s + 2)) = (114 : Int32)) = (B (s + 2) = 114) := ic 2 (by omega) 114 (by decide)
    have c3_112 : (nI (B (s + 3)) = (112 : Int32)) = (B (s + 3) = 112) := ic 3 (by omega) 112 (by decide)
    have c4_101 : (nI (B (s + 4)) = (101 : Int32)) = (B (s + 4) = 101) := ic 4 (by omega) 101 (by decide)
    have c5_116 : (nI (B (s + 5)) = (116 : Int32)) = (B (s + 5) = 116) := ic 5 (by omega) 116 (by decide)
    rw [if_neg (show ¬ 6 = 2 by decide), if_neg (show ¬ 6 = 3 by decide), if_neg (show ¬ 6 = 5 by decide), if_pos (show 6 = 6 from rfl)]
    simp only [l0, l1, l2, l3, l4, l5, Option.bind_some, c0_99, c1_97, c2_114, c3_112, c4_101, c5_116]
    simp only [ite2]
    simp <;> (repeat' split) <;> simp_all
  by_cases q7 : len = 7
  · rw [q7] at hl
    clear hlen i2 i3 i5 i6 i7 il
    subst q7
    have l0 : f_X9_letter E M (ad 0) (0 : Int32) = some (nI (B (s + 0))) := L 0 (by omega)
    have l1 : f_X9_letter E M (ad 0) (1 : Int32) = some (nI (B (s + 1))) := L 1 (by omega)
    have l2 : f_X9_letter E M (ad 0) (2 : Int32) = some (nI (B (s + 2))) := L 2 (by omega)
    have l3 : f_X9_letter E M (ad 0) (3 : Int32) = some (nI (B (s + 3))) := L 3 (by omega)
    have l4 : f_X9_letter E M (ad 0) (4 : Int32) = some (nI (B (s + 4))) := L 4 (by omega)
    have l5 : f_X9_letter E M (ad 0) (5 : Int32) = some (nI (B (s + 5))) := L 5 (by omega)
    have l6 : f_X9_letter E M (ad 0) (6 : Int32) = some (nI (B (s + 6))) := L 6 (by omega)
    have c0_109 : (nI (B (s + 0)) = (109 : Int32)) = (B (s + 0) = 109) := ic 0 (by omega) 109 (by decide)
    have c1_105 : (nI (B (s + 1)) = (105 : Int32)) = (B (s + 1) = 105) := ic 1 (by omega) 105 (by decide)
    have c2_110 : (nI (B (s + 2)) = (110 : Int32)) = (B (s + 2) = 110) := ic 2 (by omega) 110 (by decide)
    have c3_117 : (nI (B (s + 3)) = (117 : Int32)) = (B (s + 3) = 117) := ic 3 (by omega) 117 (by decide)
    have c4_116 : (nI (B (s + 4)) = (116 : Int32)) = (B (s + 4) = 116) := ic 4 (by omega) 116 (by decide)
    have c5_101 : (nI (B (s + 5)) = (101 : Int32)) = (B (s + 5) = 101) := ic 5 (by omega) 101 (by decide)
    have c6_115 : (nI (B (s + 6)) = (115 : Int32)) = (B (s + 6) = 115) := ic 6 (by omega) 115 (by decide)
    rw [if_neg (show ¬ 7 = 2 by decide), if_neg (show ¬ 7 = 3 by decide), if_neg (show ¬ 7 = 5 by decide), if_neg (show ¬ 7 = 6 by decide), if_pos (show 7 = 7 from rfl)]
    unfold f_X9_wordHere_L315
    simp only [l0, l1, l2, l3, l4, l5, l6, Option.bind_some, c0_109, c1_105, c2_110, c3_117, c4_116, c5_101, c6_115]
    simp only [if_neg I10, if_true, ite2]
    simp <;> (repeat' split) <;> simp_all
  · rw [if_neg q2, if_neg q3, if_neg q5, if_neg q6, if_neg q7, if_neg q2, if_neg q3, if_neg q5, if_neg q6, if_neg q7]
end Al63
