/-! forget, type, clear -/
section Al44
variable {E : Env1} {x m : Nat} {ad : Nat → Nat} {M M1 M2 : Mem} {h h' : Ho} {pi pi' : Nat → Nat} {p H : Nat}
def forgS (h : Ho) (k : Nat) : Ho := (oP h, oK h, oW h, oS h, oU h, oL h, (if k = 0 then 0 else oA h, if k = 1 then 0 else oB h, if k = 2 then 0 else oC h), oX h, oY h, oZ h)
theorem okH_forg (ho : okH h) (k : Nat) : okH (forgS h k) := by
  obtain ⟨h1, h2, h3, h4, h5, h6, h7, h8⟩ := ho
  refine ⟨h1, h2, h3, h4, ?_, ?_, ?_, fun r hr => h8 r ?_⟩
  · show (if k = 0 then 0 else oA h) ≤ 6
    split <;> omega
  · show (if k = 1 then 0 else oB h) ≤ 6
    split <;> omega
  · show (if k = 2 then 0 else oC h) ≤ 6
    split <;> omega
  · have hr : r < (if k = 0 then 0 else oA h) := hr
    split at hr <;> omega
theorem forg_CH (hI : ∀ n n', ad n = ad n' → n = n') {k : Nat} (hk : k ≤ 2) (hc : CH ad M 100 h pi) : CH ad (wi M (ad (100 + 6 + 2 * k)) 0 0) 100 (forgS h k) pi := by
  have d : ∀ a b, a ≠ b → ¬ ad a = ad b := fun a b h z => h (hI _ _ z)
  have f : ∀ n j, n ≠ 100 + 6 + 2 * k → mi (wi M (ad (100 + 6 + 2 * k)) 0 0) (ad n) j = mi M (ad n) j := fun n j hn => by rw [mi_wi, if_neg (fun z => d _ _ hn z.1)]
  have cr : ∀ (R n w : Nat) (g : Nat → Int32) (b : Prop) [Decidable b], (b ↔ R = 100 + 6 + 2 * k) → R % 2 = 0 → CR ad M R n w g → CR ad (wi M (ad (100 + 6 + 2 * k)) 0 0) R (if b then 0 else n) w g := by
    intro R n w g b _ hb he c
    by_cases e : b
    · rw [if_pos e]
      refine ⟨?_, fun _ _ hi => absurd hi (Nat.not_lt_zero _)⟩
      rw [hb.mp e, mi_wi, if_pos ⟨rfl, rfl⟩]; rfl
    · rw [if_neg e]
      have e2 : R ≠ 100 + 6 + 2 * k := fun z => e (hb.mpr z)
      exact CR_sm (fun j h1 h2 i => f j i (by omega)) c
  obtain ⟨c1, c2, c3, c4, c5, c6, c7⟩ := hc
  refine ⟨⟨(f 100 0 (by omega)).trans c1.1, fun i hi => (f 101 i (by omega)).trans (c1.2.1 i hi), fun i hi => (f 102 i (by omega)).trans (c1.2.2.1 i hi), CS_same (fun n h1 h2 i => f n i (by omega)) c1.2.2.2⟩, (f 100 5 (by omega)).trans c2, cr 106 _ _ _ (k = 0) (by omega) (by omega) c3, cr 108 _ _ _ (k = 1) (by omega) (by omega) c4, cr 110 _ _ _ (k = 2) (by omega) (by omega) c5, c6, fun j hj => CS_same (fun n h1 h2 i => f n i (by omega)) (c7 j hj)⟩
theorem ok_forget (hI : Inv E x m M) : al_forget Inv E x m M := by
  intro a1
  obtain ⟨ad, h, pi, hN, ho, hc, hb, k1, k2, k3, k4, k5⟩ := id hI
  obtain ⟨rfl, rfl⟩ : m = ad 0 ∧ x = ad 50 := ⟨hN.1.symm, hN.2.1.symm⟩
  have r := RO_of ho.1.1 hb
  have hH := hn_of hN (H := 100) (Or.inl rfl)
  have hS := sn_of hN (H := 100) (Or.inl rfl)
  have hT : sT (oS h) < 2 ^ 31 := by have := ho.2.1; omega
  have hp : oP h ≤ 6 := ho.1.1
  have hI' := hN.2.2.1
  have hP : ∀ j, j < 8 → SN E ad (100 + 16 + 4 * j) := fun j hj => (sp_of hN (H := 100) (Or.inl rfl) hj).1
  have d : ∀ a b, a ≠ b → ¬ ad a = ad b := fun a b h z => h (hI' _ _ z)
  by_cases g : (0 : Int32) ≤ a1 ∧ a1 ≤ 2
  · obtain ⟨k, hk, e1⟩ := rg (n := 2) (by decide) g
    have f8 : ∀ k, k ≤ 2 → f_X8_forget E M (ad 50) (nI k) = (nI (if k = 0 then oA h else if k = 1 then oB h else oC h), wi M (ad (100 + 6 + 2 * k)) 0 0) := by
      intro k hk
      unfold f_X8_forget f_X4_drop
      dsimp only [nm]
      rw [n_100 hN]
      rcases (show k = 0 ∨ k = 1 ∨ k = 2 by omega) with rfl | rfl | rfl
      · rw [if_pos (by decide), hH.2.2.2.2.1, hc.2.2.1.1]; rfl
      · rw [if_neg (by decide), if_pos (by decide), hH.2.2.2.2.2.1, hc.2.2.2.1.1]; rfl
      · rw [if_neg (by decide), if_neg (by decide), if_pos (by decide), hH.2.2.2.2.2.2.1, hc.2.2.2.2.1.1]; rfl
    have cl : Cl ad M (wi M (ad (100 + 6 + 2 * k)) 0 0) := Cl_off (Off_wi (lo := 100) (hi := 148) hI' M (by omega)) (by omega)
    have la := LV_of ho (IB_mu cl.mu hb)
    generalize hMa : wi M (ad (100 + 6 + 2 * k)) 0 0 = Ma at la cl
    obtain ⟨M2, e9, q⟩ : ∃ M2, f_X9_forget E Ma (ad 0) a1 = (nI (if k = 0 then oA h else if k = 1 then oB h else oC h), M2) ∧ M2 = wi (wi (wi Ma (ad 0) 4 (nI (if k = 0 then 0 else oA h))) (ad 0) 5 (nI (if k = 1 then 0 else oB h))) (ad 0) 6 (nI (if k = 2 then 0 else oC h)) := by
      refine ⟨_, ?_, rfl⟩
      unfold f_X9_forget
      dsimp only [nm]
      have w5 : ∀ v, mi (wi Ma (ad 0) 4 v) (ad 0) 5 = nI (oB h) := fun v => by rw [mi_wi, if_neg (by omega)]; exact la.2.2.2.2.1
      have w6 : ∀ v w, mi (wi (wi Ma (ad 0) 4 v) (ad 0) 5 w) (ad 0) 6 = nI (oC h) := fun v w => by rw [mi_wi, if_neg (by omega), mi_wi, if_neg (by omega)]; exact la.2.2.2.2.2.1
      rw [in_t g, if_neg I10, e1, w6, w5, la.2.2.2.1, la.2.2.2.2.1, la.2.2.2.2.2.1]
      rcases (show k = 0 ∨ k = 1 ∨ k = 2 by omega) with rfl | rfl | rfl <;> rfl
    have mo : Mo ad Ma M2 := by
      rw [q]
      exact (Mo_wi hI' (by omega)).tr ((Mo_wi hI' (by omega)).tr (Mo_wi hI' (by omega)))
    have okf := okH_forg ho k
    have b2 : IB (lv ad M2) (forgS h k) := by
      refine IB_of okf ?_
      obtain ⟨⟨r1, r2, r3, r4, r5, r6, r7, r8⟩, l2, l3, l4, l5, l6, l7, l8, l9⟩ := la
      have f0 : ∀ n j, ¬ (n = 0 ∧ (j = 4 ∨ j = 5 ∨ j = 6)) → mi M2 (ad n) j = mi Ma (ad n) j := fun n j hn => by
        rw [q, mi_wi, if_neg (fun z => hn ⟨hI' _ _ z.1, by omega⟩), mi_wi, if_neg (fun z => hn ⟨hI' _ _ z.1, by omega⟩), mi_wi, if_neg (fun z => hn ⟨hI' _ _ z.1, by omega⟩)]
      refine ⟨⟨(f0 0 1 (by omega)).trans r1, fun i hi => (f0 7 i (by omega)).trans (r2 i hi), fun i hi => (f0 8 i (by omega)).trans (r3 i hi), (f0 0 2 (by omega)).trans r4, (f0 0 3 (by omega)).trans r5, fun i hi => (f0 10 i (by omega)).trans (r6 i hi), fun i hi => (f0 9 i (by omega)).trans (r7 i hi), fun i hi => (f0 11 i (by omega)).trans (r8 i hi)⟩, (f0 0 21 (by omega)).trans l2, fun j hj => BS_sh hp (fun i hi => f0 20 _ (by omega)) (l3 j hj), ?_, ?_, ?_, fun i hi => (f0 12 i (by omega)).trans (l7 i ?_), fun i hi => (f0 13 i (by omega)).trans (l8 i ?_), fun i hi => (f0 14 i (by omega)).trans (l9 i ?_)⟩
      · rw [q, mi_wi, if_neg (by omega), mi_wi, if_neg (by omega), mi_wi, if_pos ⟨rfl, rfl⟩]; rfl
      · rw [q, mi_wi, if_neg (by omega), mi_wi, if_pos ⟨rfl, rfl⟩]; rfl
      · rw [q, mi_wi, if_pos ⟨rfl, rfl⟩]; rfl
      · have hi : i < 3 * (if k = 0 then 0 else oA h) := hi
        split at hi <;> omega
      · have hi : i < 4 * (if k = 1 then 0 else oB h) := hi
        split at hi <;> omega
      · have hi : i < 4 * (if k = 2 then 0 else oC h) := hi
        split at hi <;> omega
    have e8 : some (f_X8_forget E M (ad 50) a1) = some (nI (if k = 0 then oA h else if k = 1 then oB h else oC h), Ma) := by rw [e1, f8 k hk, hMa]
    obtain ⟨rr, N1, N2, x1, x2, x3⟩ := fin (G := fun M1 => some (f_X9_forget E M1 (ad 0) a1)) hN k1 k2 k3 k4 k5 okf e8 cl (by rw [← hMa]; exact forg_CH hI' hk hc) (congrArg some e9) mo b2
    exact ⟨rr, N1, N2, Option.some.inj x1, Option.some.inj x2, x3⟩
  · have z : ∀ c : Int32, (0 ≤ c ∧ c ≤ 2) → ¬ a1 = c := fun c hc e => g (e ▸ hc)
    obtain ⟨rr, N1, N2, x1, x2, x3⟩ := fin_bad (F := some (f_X8_forget E M (ad 50) a1)) (G := fun M1 => some (f_X9_forget E M1 (ad 0) a1)) hN ho hc hb k1 k2 k3 k4 k5 (by unfold f_X8_forget; rw [if_neg (z 0 (by decide)), if_neg (z 1 (by decide)), if_neg (z 2 (by decide))]; rfl) (fun M1 u => by show some (f_X9_forget E M1 (ad 0) a1) = _; unfold f_X9_forget; rw [in_f g, if_pos I00]; rfl)
    exact ⟨rr, N1, N2, Option.some.inj x1, Option.some.inj x2, x3⟩
/-! the text -/
theorem inv_txt (hN : Nm E (ad 50) (ad 0) ad) (ho : okH h) (hc : CH ad M 100 h pi) (hb : IB (lv ad M) h) (k1 : Ctr ad M) (k2 : Frc ad M) (k4 : Img ad M) (k5 : Drf ad M) (f : ∀ n, n ≠ 54 → n ≠ 56 → n ≠ 15 → n ≠ 0 → ∀ k, mi M2 (ad n) k = mi M (ad n) k) (f0 : ∀ k, k ≠ 16 → mi M2 (ad 0) k = mi M (ad 0) k) (f2 : M2.2 = M.2) (t : Txt ad M2) : Inv E (ad 50) (ad 0) M2 := by
  have rm : ∀ n k, mr M2 n k = mr M n k := fun n k => congrArg (fun z => z.2 n k) f2
  have lm : ∀ n k, ml M2 n k = ml M n k := fun n k => congrArg (fun z => z.1 n k) f2
  refine ⟨ad, h, pi, hN, ho, CH_sm ho.2.2.1 (fun n hn k => ⟨f n (by omega) (by omega) (by omega) (by omega) k, rm _ _⟩) hc, ?_, fun c hcc => ?_, ⟨?_, ?_⟩, t, fun i hi => ?_, ?_⟩
  · have e : lv ad M2 = lv ad M := by
      funext k
      unfold lv
      simp only [f0 1 (by omega), f0 2 (by omega), f0 3 (by omega), f0 4 (by omega), f0 5 (by omega), f0 6 (by omega), f0 21 (by omega), f 7 (by omega) (by omega) (by omega) (by omega), f 8 (by omega) (by omega) (by omega) (by omega), f 9 (by omega) (by omega) (by omega) (by omega), f 10 (by omega) (by omega) (by omega) (by omega), f 11 (by omega) (by omega) (by omega) (by omega), f 12 (by omega) (by omega) (by omega) (by omega), f 13 (by omega) (by omega) (by omega) (by omega), f 14 (by omega) (by omega) (by omega) (by omega), f 20 (by omega) (by omega) (by omega) (by omega)]
    rw [e]
    exact hb
  · rw [f 50 (by omega) (by omega) (by omega) (by omega), f 1 (by omega) (by omega) (by omega) (by omega)]
    exact k1 c hcc
  · rw [lm, lm]; exact k2.1
  · rw [lm, lm]; exact k2.2
  · obtain ⟨h1, ⟨q, h2⟩, h3⟩ := k4 i hi
    refine ⟨(f 53 (by omega) (by omega) (by omega) (by omega) i).trans (h1.trans (f 28 (by omega) (by omega) (by omega) (by omega) i).symm), ⟨q, PM_sm (fun j => rm _ _) h2⟩, ?_⟩
    rcases h3 with h3 | ⟨g, q', g1, g2, g3⟩
    · exact Or.inl ((f 53 (by omega) (by omega) (by omega) (by omega) i).trans h3)
    · refine Or.inr ⟨g, q', g1, CH_sm g1.2.2.1 (fun n hn j => ⟨f n (by omega) (by omega) (by omega) (by omega) j, rm _ _⟩) g2, ?_⟩
      have e : (fun j => mi M2 (ad 27) (300 * i + j)) = fun j => mi M (ad 27) (300 * i + j) := funext fun j => f 27 (by omega) (by omega) (by omega) (by omega) _
      rw [e]
      exact g3
  · obtain ⟨q, k5⟩ := k5
    exact ⟨q, PM_sm (fun j => rm _ _) k5⟩
theorem ok_clear (hI : Inv E x m M) : al_clear Inv E x m M := by
  obtain ⟨ad, h, pi, hN, ho, hc, hb, k1, k2, k3, k4, k5⟩ := id hI
  obtain ⟨rfl, rfl⟩ : m = ad 0 ∧ x = ad 50 := ⟨hN.1.symm, hN.2.1.symm⟩
  have r := RO_of ho.1.1 hb
  have hH := hn_of hN (H := 100) (Or.inl rfl)
  have hS := sn_of hN (H := 100) (Or.inl rfl)
  have hT : sT (oS h) < 2 ^ 31 := by have := ho.2.1; omega
  have hp : oP h ≤ 6 := ho.1.1
  have hI' := hN.2.2.1
  have hP : ∀ j, j < 8 → SN E ad (100 + 16 + 4 * j) := fun j hj => (sp_of hN (H := 100) (Or.inl rfl) hj).1
  have d : ∀ a b, a ≠ b → ¬ ad a = ad b := fun a b h z => h (hI' _ _ z)
  obtain ⟨t, t1, t2, t3, t4⟩ := k3
  refine ⟨nI t, wi M (ad 54) 0 0, wi (wi M (ad 54) 0 0) (ad 0) 16 0, ?_, ?_, inv_txt hN ho hc hb k1 k2 k4 k5 (fun n h1 h2 h3 h4 k => ?_) (fun k hk => ?_) rfl ⟨0, by omega, ?_, ?_, fun i hi => absurd hi (Nat.not_lt_zero i)⟩⟩
  · unfold f_X8_clear
    rw [n_54 hN, t2]
  · unfold f_X9_clear
    rw [mi_wi, if_neg (fun z => d _ _ (by omega) z.1), t3]
  · rw [mi_wi, if_neg (fun z => d _ _ h4 z.1), mi_wi, if_neg (fun z => d _ _ h1 z.1)]
  · rw [mi_wi, if_neg (fun z => hk z.2), mi_wi, if_neg (fun z => d _ _ (by omega) z.1)]
  · rw [mi_wi, if_neg (fun z => d _ _ (by omega) z.1), mi_wi, if_pos ⟨rfl, rfl⟩]; rfl
  · rw [mi_wi, if_pos ⟨rfl, rfl⟩]; rfl
theorem ok_type (hI : Inv E x m M) : al_type Inv E x m M := by
  intro a1
  obtain ⟨ad, h, pi, hN, ho, hc, hb, k1, k2, k3, k4, k5⟩ := id hI
  obtain ⟨rfl, rfl⟩ : m = ad 0 ∧ x = ad 50 := ⟨hN.1.symm, hN.2.1.symm⟩
  have r := RO_of ho.1.1 hb
  have hH := hn_of hN (H := 100) (Or.inl rfl)
  have hS := sn_of hN (H := 100) (Or.inl rfl)
  have hT : sT (oS h) < 2 ^ 31 := by have := ho.2.1; omega
  have hp : oP h ≤ 6 := ho.1.1
  have hI' := hN.2.2.1
  have hP : ∀ j, j < 8 → SN E ad (100 + 16 + 4 * j) := fun j hj => (sp_of hN (H := 100) (Or.inl rfl) hj).1
  have d : ∀ a b, a ≠ b → ¬ ad a = ad b := fun a b h z => h (hI' _ _ z)
  by_cases g : (0 : Int32) ≤ a1 ∧ a1 ≤ 127
  · obtain ⟨c, hcc, e1⟩ := rg (n := 127) (by decide) g
    obtain ⟨t, t1, t2, t3, t4⟩ := id k3
    by_cases ht : t < 150
    · have f8 : f_X7_append E M (ad 54) a1 = some (wi (wi M (ad 56) t a1) (ad 54) 0 (nI (t + 1))) := by
        unfold f_X7_append
        dsimp only [nm]
        rw [t2, within_p E M (nI_pos' (by omega)) (show nI t ≤ (149 : Int32) from nI_le (a := t) (b := 149) (by omega) (by decide)), if_neg I10, gd_nI ht (by decide), n_56 hN, ix_nI (by omega), mi_wi, if_neg (fun z => d _ _ (by omega) z.1), t2, nI_1]
      have q15 : mi (wi (wi M (ad 56) t a1) (ad 54) 0 (nI (t + 1))) (ad 0) 16 = nI t := by
        rw [mi_wi, if_neg (fun z => d _ _ (by omega) z.1), mi_wi, if_neg (fun z => d _ _ (by omega) z.1)]
        exact t3
      refine ⟨nI (t + 1), wi (wi M (ad 56) t a1) (ad 54) 0 (nI (t + 1)), wi (wi (wi (wi M (ad 56) t a1) (ad 54) 0 (nI (t + 1))) (ad 15) t a1) (ad 0) 16 (nI (t + 1)), ?_, ?_, inv_txt hN ho hc hb k1 k2 k4 k5 (fun n h1 h2 h3 h4 k => ?_) (fun k hk => ?_) rfl ⟨t + 1, by omega, ?_, ?_, fun i hi => ?_⟩⟩
      · unfold f_X8_type
        rw [wi_t g, if_neg I10, n_54 hN, t2, if_pos (show nI t < (150 : Int32) from nI_lt (b := 150) ht (by decide)), f8, Option.bind_some, mi_wi, if_pos ⟨rfl, rfl⟩]
      · unfold f_X9_type
        dsimp only [nm]
        rw [in_t g, if_neg I10, q15, if_neg (show ¬ nI t = (150 : Int32) from fun z => by have := (nI_eq (b := 150) (by omega) (by decide)).mp z; omega), gd_nI ht (by decide), n_15 hN, ix_nI (by omega)]
        have q16 : mi (wi (wi (wi M (ad 56) t a1) (ad 54) 0 (nI (t + 1))) (ad 15) t a1) (ad 0) 16 = nI t := by
          rw [mi_wi, if_neg (fun z => d _ _ (by omega) z.1)]
          exact q15
        rw [q16, nI_1, mi_wi, if_pos ⟨rfl, rfl⟩]
      · rw [mi_wi, if_neg (fun z => d _ _ h4 z.1), mi_wi, if_neg (fun z => d _ _ h3 z.1), mi_wi, if_neg (fun z => d _ _ h1 z.1), mi_wi, if_neg (fun z => d _ _ h2 z.1)]
      · rw [mi_wi, if_neg (fun z => hk z.2), mi_wi, if_neg (fun z => d _ _ (by omega) z.1), mi_wi, if_neg (fun z => d _ _ (by omega) z.1), mi_wi, if_neg (fun z => d _ _ (by omega) z.1)]
      · rw [mi_wi, if_neg (fun z => d _ _ (by omega) z.1), mi_wi, if_neg (fun z => d _ _ (by omega) z.1), mi_wi, if_pos ⟨rfl, rfl⟩]
      · rw [mi_wi, if_pos ⟨rfl, rfl⟩]
      · have w15 : mi (wi (wi (wi (wi M (ad 56) t a1) (ad 54) 0 (nI (t + 1))) (ad 15) t a1) (ad 0) 16 (nI (t + 1))) (ad 15) i = if i = t then a1 else mi M (ad 15) i := by
          rw [mi_wi, if_neg (fun z => d _ _ (by omega) z.1), mi_wi]
          by_cases e : i = t
          · rw [if_pos ⟨rfl, e⟩, if_pos e]
          · rw [if_neg (fun z => e z.2), if_neg e, mi_wi, if_neg (fun z => d _ _ (by omega) z.1), mi_wi, if_neg (fun z => d _ _ (by omega) z.1)]
        have w56 : mi (wi (wi (wi (wi M (ad 56) t a1) (ad 54) 0 (nI (t + 1))) (ad 15) t a1) (ad 0) 16 (nI (t + 1))) (ad 56) i = if i = t then a1 else mi M (ad 56) i := by
          rw [mi_wi, if_neg (fun z => d _ _ (by omega) z.1), mi_wi, if_neg (fun z => d _ _ (by omega) z.1), mi_wi, if_neg (fun z => d _ _ (by omega) z.1), mi_wi]
          by_cases e : i = t
          · rw [if_pos ⟨rfl, e⟩, if_pos e]
          · rw [if_neg (fun z => e z.2), if_neg e]
        rw [w15, w56]
        by_cases e : i = t
        · rw [if_pos e, if_pos e]
          exact ⟨rfl, c, by omega, e1⟩
        · rw [if_neg e, if_neg e]
          exact t4 i (by omega)
    · exact fin_full hN ho hc hb k1 k2 k3 k4 k5 (by unfold f_X8_type; rw [wi_t g, if_neg I10, n_54 hN, t2, if_neg (show ¬ nI t < (150 : Int32) from nI_nlt (b := 150) (by omega) (by omega))]; rfl) (fun M1 u => by unfold f_X9_type; rw [in_t g, if_neg I10, (u 0 (by decide) 16).trans t3, if_pos (show nI t = (150 : Int32) from (nI_eq (b := 150) (by omega) (by decide)).mpr (by omega))]; rfl)
  · exact fin_bad hN ho hc hb k1 k2 k3 k4 k5 (by unfold f_X8_type; rw [wi_f g, if_pos I00]; rfl) (fun M1 u => by unfold f_X9_type; rw [in_f g, if_pos I00]; rfl)
end Al44
