/-! copies of houses; images -/
section Al46
variable {E : Env1} {x m : Nat} {ad : Nat → Nat} {M M1 M2 : Mem} {h h' : Ho} {pi pi' : Nat → Nat} {p H H' : Nat} {s : Sd}
theorem copyPeople_sp (hI : ∀ n n', ad n = ad n' → n = n') (hH : HN E ad H) (hS : SN E ad (H + 12)) (hH' : HN E ad H') (hS' : SN E ad (H' + 12)) (hd : H + 48 ≤ H' ∨ H' + 48 ≤ H) (M : Mem) : ∃ M1, f_X0_copyPeople E M (ad H) (ad H') = some M1 ∧ mi M1 (ad H) 0 = mi M (ad H') 0 ∧ (∀ i, i < 6 → mi M1 (ad (H + 1)) i = mi M (ad (H' + 1)) i) ∧ (∀ i, i < 6 → mi M1 (ad (H + 2)) i = mi M (ad (H' + 2)) i) ∧ CE ad M1 (H + 12) M (H' + 12) ∧ Off ad M M1 H (H + 16) ∧ (∀ n, H + 3 ≤ n → n < H + 12 → ∀ k, mi M1 (ad n) k = mi M (ad n) k) := by
  have d : ∀ a b, a ≠ b → ¬ ad a = ad b := fun a b h z => h (hI _ _ z)
  unfold f_X0_copyPeople
  obtain ⟨n, e⟩ := loop_FU (fun n (a : Mem) w => f_X0_copyPeople_L10 E n a (ad H) (ad H') w) (fun j => upR (upR (wi M (ad H) 0 (mi M (ad H') 0)) (ad (H + 1)) 0 j (fun k => mi M (ad (H' + 1)) k)) (ad (H + 2)) 0 j (fun k => mi M (ad (H' + 2)) k)) 6 (by decide) (by
    intro n j hj
    show b_X0_copyPeople_L10 E (f_X0_copyPeople_L10 E n) _ (ad H) (ad H') (nI j) = _
    unfold b_X0_copyPeople_L10
    dsimp only [nm]
    rw [if_neg (lt6 hj), gd_nI hj (by decide), ix_nI (by omega), hH.1, hH'.1, hH.2.1, hH'.2.1, nI_1]
    rw [upR_s2 _ (ad (H + 1)) 0 (ad (H + 2)) 0 j _ _ (fun _ _ _ _ z => d _ _ (by omega) z.1) j j (by omega) (by omega) _ _ (by rw [mi_upR, if_neg (fun z => d _ _ (by omega) z.1), mi_upR, if_neg (fun z => d _ _ (by omega) z.1), mi_wi, if_neg (fun z => d _ _ (by omega) z.1)]) (by rw [mi_wi, if_neg (fun z => d _ _ (by omega) z.1), mi_upR, if_neg (fun z => d _ _ (by omega) z.1), mi_upR, if_neg (fun z => d _ _ (by omega) z.1), mi_wi, if_neg (fun z => d _ _ (by omega) z.1)])])
  rw [upR_0, upR_0] at e
  rw [e]
  show ∃ M1, b_X0_copyPeople_L10 E (f_X0_copyPeople_L10 E n) _ (ad H) (ad H') (nI 6) = some M1 ∧ _
  unfold b_X0_copyPeople_L10
  rw [if_pos (by decide), hH.2.2.1, hH'.2.2.1]
  generalize hMa : upR (upR (wi M (ad H) 0 (mi M (ad H') 0)) (ad (H + 1)) 0 6 (fun k => mi M (ad (H' + 1)) k)) (ad (H + 2)) 0 6 (fun k => mi M (ad (H' + 2)) k) = Ma
  have oa : Off ad M Ma H (H + 3) := by
    rw [← hMa]
    exact (Off_wi hI M (by omega)).tr ((Off_upR hI _ (by omega)).tr (Off_upR hI _ (by omega)))
  obtain ⟨M1, e1, ce, o1⟩ := copyStand_sp hI hS hS' (by omega) Ma
  rw [e1]
  refine ⟨M1, rfl, ?_, fun i hi => ?_, fun i hi => ?_, ⟨fun k hk => (ce.1 k hk).trans (oa.1 _ (by omega) k), fun k hk => (ce.2.1 k hk).trans (oa.1 _ (by omega) k), fun k hk => (ce.2.2.1 k hk).trans (oa.1 _ (by omega) k), ce.2.2.2.1.trans (oa.1 _ (by omega) 3), ce.2.2.2.2.trans (oa.1 _ (by omega) 4)⟩, (oa.mono (by omega) (by omega)).tr (o1.mono (by omega) (by omega)), fun n h1 h2 k => (o1.1 n (by omega) k).trans (oa.1 n (by omega) k)⟩
  · rw [o1.1 H (by omega) 0, ← hMa, mi_upR, if_neg (fun z => d _ _ (by omega) z.1), mi_upR, if_neg (fun z => d _ _ (by omega) z.1), mi_wi, if_pos ⟨rfl, rfl⟩]
  · rw [o1.1 (H + 1) (by omega) i, ← hMa, mi_upR, if_neg (fun z => d _ _ (by omega) z.1), mi_upR, if_pos ⟨rfl, by omega, by omega⟩]; rfl
  · rw [o1.1 (H + 2) (by omega) i, ← hMa, mi_upR, if_pos ⟨rfl, by omega, by omega⟩]; rfl
theorem rowsCopy_sp (hI : ∀ n n', ad n = ad n' → n = n') {R R' : Nat} (hW : WN E ad R) (hW' : WN E ad R') (hd : R + 2 ≤ R' ∨ R' + 2 ≤ R) (M : Mem) : ∃ M1, f_X4_copyFrom E M (ad R) (ad R') = some M1 ∧ mi M1 (ad R) 0 = mi M (ad R') 0 ∧ (∀ k, k < 24 → mi M1 (ad (R + 1)) k = mi M (ad (R' + 1)) k) ∧ Off ad M M1 R (R + 2) := by
  have d : ∀ a b, a ≠ b → ¬ ad a = ad b := fun a b h z => h (hI _ _ z)
  unfold f_X4_copyFrom
  obtain ⟨n, e⟩ := loop_FU (fun n (a : Mem) w => f_X4_copyFrom_L10 E n a (ad R) (ad R') w) (fun j => upR (wi M (ad R) 0 (mi M (ad R') 0)) (ad (R + 1)) 0 j (fun k => mi M (ad (R' + 1)) k)) 24 (by decide) (by
    intro n j hj
    show b_X4_copyFrom_L10 E (f_X4_copyFrom_L10 E n) _ (ad R) (ad R') (nI j) = _
    unfold b_X4_copyFrom_L10
    rw [if_neg (show ¬ (24 : Int32) ≤ nI j from nI_ge (b := 24) hj (by decide)), gd_nI hj (by decide), ix_nI (by omega), hW, hW', mi_upR, if_neg (fun z => d _ _ (by omega) z.1), mi_wi, if_neg (fun z => d _ _ (by omega) z.1), nI_1, upR_s _ _ _ _ _ _ (by omega) _ rfl])
  rw [upR_0] at e
  rw [e]
  show ∃ M1, b_X4_copyFrom_L10 E (f_X4_copyFrom_L10 E n) _ (ad R) (ad R') (nI 24) = some M1 ∧ _
  unfold b_X4_copyFrom_L10
  rw [if_pos (by decide)]
  refine ⟨_, rfl, ?_, fun k hk => ?_, (Off_wi hI M (by omega)).tr (Off_upR hI _ (by omega))⟩
  · rw [mi_upR, if_neg (fun z => d _ _ (by omega) z.1), mi_wi, if_pos ⟨rfl, rfl⟩]
  · rw [mi_upR, if_pos ⟨rfl, by omega, by omega⟩]; rfl
theorem copyFrom_sp (hN : Nm E x m ad) (hh : isH H) (hh' : isH H') (hne : H ≠ H') (ho : okH h) (q : PM ad M H pi) (c : CH ad M H' h pi') : ∃ M1, f_X0_copyFrom E M (ad H) (ad H') = some M1 ∧ CH ad M1 H h pi ∧ Off ad M M1 H (H + 48) := by
  have hI := hN.2.2.1
  have hd : H + 48 ≤ H' ∨ H' + 48 ≤ H := by
    rcases hh with rfl | rfl | rfl | rfl <;> rcases hh' with rfl | rfl | rfl | rfl <;> omega
  have hH := hn_of hN hh
  have hH' := hn_of hN hh'
  obtain ⟨c1, c2, c3, c4, c5, c6, c7⟩ := c
  unfold f_X0_copyFrom
  obtain ⟨Ma, ea, a0, a1, a2, a3, a4, a5⟩ := copyPeople_sp hI hH (sn_of hN hh) hH' (sn_of hN hh') hd M
  rw [ea, Option.bind_some, a4.1 H' (by omega) 5]
  generalize hMb : wi Ma (ad H) 5 (mi M (ad H') 5) = Mb
  have ob : Off ad M Mb H (H + 16) := a4.tr (by rw [← hMb]; exact Off_wi hI _ (by omega))
  have mb : ∀ n k, ¬ (n = H ∧ k = 5) → mi Mb (ad n) k = mi Ma (ad n) k := fun n k hn => by rw [← hMb, mi_wi, if_neg (fun z => hn ⟨hI _ _ z.1, z.2⟩)]
  have mb5 : mi Mb (ad H) 5 = mi M (ad H') 5 := by rw [← hMb, mi_wi, if_pos ⟨rfl, rfl⟩]
  have qb : PM ad Mb H pi := PM_sm (fun k => ob.mr _ _) q
  have q' : PM ad Mb H' pi' := PM_sm (fun k => ob.mr _ _) c6
  have key := loop_QFU (fun n (a : Mem) w => f_X0_copyFrom_L15 E n a (ad H) (ad H') w) (fun j a => (∀ i, i < j → CE ad a (H + 16 + 4 * pi i) Mb (H' + 16 + 4 * pi' i)) ∧ Off ad Mb a (H + 16) (H + 48)) (fun z => ∃ M1, z = some M1 ∧ ∃ a, ((∀ i, i < 8 → CE ad a (H + 16 + 4 * pi i) Mb (H' + 16 + 4 * pi' i)) ∧ Off ad Mb a (H + 16) (H + 48)) ∧ Off ad a M1 (H + 6) (H + 12) ∧ (∀ R, (R = 6 ∨ R = 8 ∨ R = 10) → mi M1 (ad (H + R)) 0 = mi Mb (ad (H' + R)) 0 ∧ ∀ k, k < 24 → mi M1 (ad (H + R + 1)) k = mi Mb (ad (H' + R + 1)) k)) 8 (by decide) Mb ⟨fun i hi => absurd hi (Nat.not_lt_zero i), Off.rf⟩ (by
    intro n j a hj hP
    left
    obtain ⟨hP1, hP2⟩ := hP
    have b1 := qb.1 j hj
    have b2 := q'.1 j hj
    obtain ⟨M1, e1, ce, o1⟩ := copyStand_sp hI (sp_of hN hh b1.2).1 (sp_of hN hh' b2.2).1 (by omega) a
    refine ⟨M1, ?_, fun i hi => ?_, hP2.tr (o1.mono (by omega) (by omega))⟩
    · show b_X0_copyFrom_L15 E (f_X0_copyFrom_L15 E n) a (ad H) (ad H') (nI j) = _
      unfold b_X0_copyFrom_L15
      rw [if_neg (lt8 hj), gd_nI hj (by decide), ix_nI (by omega), hH.2.2.2.1, hH'.2.2.2.1, hP2.mr, hP2.mr, b1.1, b2.1, e1, Option.bind_some, nI_1]
    · by_cases e : i = j
      · subst e
        exact ⟨fun k hk => (ce.1 k hk).trans (hP2.1 _ (by omega) k), fun k hk => (ce.2.1 k hk).trans (hP2.1 _ (by omega) k), fun k hk => (ce.2.2.1 k hk).trans (hP2.1 _ (by omega) k), ce.2.2.2.1.trans (hP2.1 _ (by omega) 3), ce.2.2.2.2.trans (hP2.1 _ (by omega) 4)⟩
      · have hij : pi i ≠ pi j := fun z => e (qb.2 i j (by omega) hj z)
        have ce' := hP1 i (by omega)
        exact ⟨fun k hk => (o1.1 _ (by omega) k).trans (ce'.1 k hk), fun k hk => (o1.1 _ (by omega) k).trans (ce'.2.1 k hk), fun k hk => (o1.1 _ (by omega) k).trans (ce'.2.2.1 k hk), (o1.1 _ (by omega) 3).trans ce'.2.2.2.1, (o1.1 _ (by omega) 4).trans ce'.2.2.2.2⟩) (by
    intro n a hP
    show ∃ M1, b_X0_copyFrom_L15 E (f_X0_copyFrom_L15 E n) a (ad H) (ad H') (nI 8) = some M1 ∧ _
    unfold b_X0_copyFrom_L15
    rw [if_pos (by decide), hH.2.2.2.2.1, hH'.2.2.2.2.1, hH.2.2.2.2.2.1, hH'.2.2.2.2.2.1, hH.2.2.2.2.2.2.1, hH'.2.2.2.2.2.2.1]
    have w1 := wn_of hN hh
    have w2 := wn_of hN hh'
    obtain ⟨N1, e1, s1, t1, o1⟩ := rowsCopy_sp hI w1.1 w2.1 (by omega) a
    obtain ⟨N2, e2, s2, t2, o2⟩ := rowsCopy_sp hI w1.2.1 w2.2.1 (by omega) N1
    obtain ⟨N3, e3, s3, t3, o3⟩ := rowsCopy_sp hI w1.2.2 w2.2.2 (by omega) N2
    rw [e1, Option.bind_some, e2, Option.bind_some, e3]
    refine ⟨N3, rfl, a, hP, (o1.mono (by omega) (by omega)).tr ((o2.mono (by omega) (by omega)).tr (o3.mono (by omega) (by omega))), fun R hR => ?_⟩
    rcases hR with rfl | rfl | rfl
    · exact ⟨((o3.1 _ (by omega) 0).trans (o2.1 _ (by omega) 0)).trans (s1.trans (hP.2.1 _ (by omega) 0)), fun k hk => ((o3.1 _ (by omega) k).trans (o2.1 _ (by omega) k)).trans ((t1 k hk).trans (hP.2.1 _ (by omega) k))⟩
    · exact ⟨(o3.1 _ (by omega) 0).trans (s2.trans ((o1.1 _ (by omega) 0).trans (hP.2.1 _ (by omega) 0))), fun k hk => (o3.1 _ (by omega) k).trans ((t2 k hk).trans ((o1.1 _ (by omega) k).trans (hP.2.1 _ (by omega) k)))⟩
    · exact ⟨s3.trans ((o2.1 _ (by omega) 0).trans ((o1.1 _ (by omega) 0).trans (hP.2.1 _ (by omega) 0))), fun k hk => (t3 k hk).trans ((o2.1 _ (by omega) k).trans ((o1.1 _ (by omega) k).trans (hP.2.1 _ (by omega) k)))⟩)
  obtain ⟨M1, e1, a, ⟨k1, k2⟩, k3, k4⟩ := key
  have e1 : f_X0_copyFrom_L15 E FU Mb (ad H) (ad H') 0 = some M1 := e1
  have g : ∀ n, n < H + 6 ∨ (H + 12 ≤ n ∧ n < H + 16) → ∀ k, mi M1 (ad n) k = mi Mb (ad n) k := fun n hn k => (k3.1 n (by omega) k).trans (k2.1 n (by omega) k)
  have cr : ∀ R nn w f, (R = 6 ∨ R = 8 ∨ R = 10) → nn ≤ 6 → (w = 3 ∨ w = 4) → CR ad M (H' + R) nn w f → CR ad M1 (H + R) nn w f := fun R nn w f hR hnn hw c => ⟨(k4 R hR).1.trans ((ob.1 _ (by omega) 0).trans c.1), fun r q hr hq => ((k4 R hR).2 _ (by omega)).trans ((ob.1 _ (by omega) _).trans (c.2 r q hr hq))⟩
  refine ⟨M1, e1, ⟨⟨?_, fun i hi => ?_, fun i hi => ?_, ?_⟩, ?_, cr 6 _ _ _ (by omega) ho.2.2.2.2.1 (by omega) c3, cr 8 _ _ _ (by omega) ho.2.2.2.2.2.1 (by omega) c4, cr 10 _ _ _ (by omega) ho.2.2.2.2.2.2.1 (by omega) c5, PM_sm (fun k => (k3.mr _ _).trans ((k2.mr _ _).trans (ob.mr _ _))) q, fun j hj => ?_⟩, (ob.mono (by omega) (by omega)).tr ((k2.mono (by omega) (by omega)).tr (k3.mono (by omega) (by omega)))⟩
  · exact (g H (by omega) 0).trans ((mb H 0 (by omega)).trans (a0.trans c1.1))
  · exact (g (H + 1) (by omega) i).trans ((mb (H + 1) i (by omega)).trans ((a1 i (by have := ho.1.1; omega)).trans (c1.2.1 i hi)))
  · exact (g (H + 2) (by omega) i).trans ((mb (H + 2) i (by omega)).trans ((a2 i (by have := ho.1.1; omega)).trans (c1.2.2.1 i hi)))
  · exact CS_same (M := Ma) (fun n h1 h2 k => (g n (by omega) k).trans (mb n k (by omega))) (CS_CE a3 c1.2.2.2)
  · exact (g H (by omega) 5).trans (mb5.trans c2)
  · have hj8 : j < 8 := Nat.lt_of_lt_of_le hj ho.2.2.1
    have p1 := (q.1 j hj8).2
    have p2 := (c6.1 j hj8).2
    exact CS_same (M := a) (fun n h1 h2 k => k3.1 n (by omega) k) (CS_CE (k1 j hj8) (CS_same (M := M) (fun n h1 h2 k => ob.1 n (by omega) k) (c7 j hj)))
/-! the reference takes all -/
def taM (ad : Nat → Nat) (M : Mem) (T o : Nat) : Mem := upR (upR (upR (upR (upR (upR (wi (wi (wi (wi (wi (tkM ad M T o) (ad 0) 1 (mi M (ad T) (o + 22))) (ad 0) 4 (mi M (ad T) (o + 23))) (ad 0) 5 (mi M (ad T) (o + 24))) (ad 0) 6 (mi M (ad T) (o + 25))) (ad 0) 21 (mi M (ad T) (o + 26))) (ad 7) 0 6 (fun i => mi M (ad T) (o + 27 + i))) (ad 8) 0 6 (fun i => mi M (ad T) (o + 33 + i))) (ad 12) 0 18 (fun i => mi M (ad T) (o + 39 + i))) (ad 13) 0 24 (fun i => mi M (ad T) (o + 57 + i))) (ad 14) 0 24 (fun i => mi M (ad T) (o + 81 + i))) (ad 20) 0 176 (fun i => mi M (ad T) (o + 105 + i))
theorem takeAll_eq (hN : Nm E (ad 50) (ad 0) ad) {T o n1 : Nat} (hT : T = 19 ∨ T = 27) (ho : o + 281 ≤ n1) (hn : n1 ≤ 600) (M : Mem) : f_X9_takeAll E n1 M (ad 0) (ad T) (nI o) = some (taM ad M T o) := by
  have hI := hN.2.2.1
  have d : ∀ a b, a ≠ b → ¬ ad a = ad b := fun a b h z => h (hI _ _ z)
  have tk : ∀ k, mi (tkM ad M T o) (ad T) k = mi M (ad T) k := fun k => (St_tk hI M T o).1 T (by omega) (by omega) (by omega) (by omega) k
  unfold f_X9_takeAll
  rw [takes_eq hN (by omega) (by omega) hn, Option.bind_some]
  dsimp only [nm]
  rw [gd_b (k := 22) (c := 22) rfl (by omega) (by omega), gd_b (k := 23) (c := 23) rfl (by omega) (by omega), gd_b (k := 24) (c := 24) rfl (by omega) (by omega), gd_b (k := 25) (c := 25) rfl (by omega) (by omega), gd_b (k := 26) (c := 26) rfl (by omega) (by omega), ix_b (k := 22) (c := 22) rfl (by omega), ix_b (k := 23) (c := 23) rfl (by omega), ix_b (k := 24) (c := 24) rfl (by omega), ix_b (k := 25) (c := 25) rfl (by omega), ix_b (k := 26) (c := 26) rfl (by omega)]
  have wT : ∀ (A : Mem) (k j : Nat) (v : Int32), mi (wi A (ad 0) k v) (ad T) j = mi A (ad T) j := fun A k j v => by rw [mi_wi, if_neg (fun z => d _ _ (by omega) z.1)]
  rw [wT, wT, wT, wT, wT, wT, wT, wT, wT, wT, tk, tk, tk, tk, tk]
  generalize hMw : wi (wi (wi (wi (wi (tkM ad M T o) (ad 0) 1 (mi M (ad T) (o + 22))) (ad 0) 4 (mi M (ad T) (o + 23))) (ad 0) 5 (mi M (ad T) (o + 24))) (ad 0) 6 (mi M (ad T) (o + 25))) (ad 0) 21 (mi M (ad T) (o + 26)) = Mw
  have mw : ∀ k, mi Mw (ad T) k = mi M (ad T) k := fun k => by rw [← hMw, wT, wT, wT, wT, wT, tk]
  have uT : ∀ (A : Mem) (b l n k : Nat) (v : Nat → Int32), b ≠ T → mi (upR A (ad b) l n v) (ad T) k = mi A (ad T) k := fun A b l n k v hb => by rw [mi_upR, if_neg (fun z => d _ _ (Ne.symm hb) z.1)]
  obtain ⟨n, e⟩ := loop_FU (fun n (a : Mem) w => f_X9_takeAll_L58 E n1 n a (ad 0) (ad T) (nI o) w) (fun j => upR (upR Mw (ad 7) 0 j (fun i => mi M (ad T) (o + 27 + i))) (ad 8) 0 j (fun i => mi M (ad T) (o + 33 + i))) 6 (by decide) (by
    intro n j hj
    show b_X9_takeAll_L58 E n1 (f_X9_takeAll_L58 E n1 n) _ (ad 0) (ad T) (nI o) (nI j) = _
    unfold b_X9_takeAll_L58
    dsimp only [nm]
    rw [if_neg (lt6 hj), gd_nI hj (by decide), gd_a (k := 27) (c := 27) rfl (by omega) (by omega), gd_a (k := 33) (c := 33) rfl (by omega) (by omega), ix_nI (by omega), ix_a (k := 27) (c := 27) rfl (by omega), ix_a (k := 33) (c := 33) rfl (by omega), n_7 hN, n_8 hN, nI_1]
    rw [upR_s2 _ (ad 7) 0 (ad 8) 0 j _ _ (fun _ _ _ _ z => d _ _ (by omega) z.1) j j (by omega) (by omega) _ _ (by rw [uT _ _ _ _ _ _ (by omega), uT _ _ _ _ _ _ (by omega), mw]) (by rw [mi_wi, if_neg (fun z => d _ _ (by omega) z.1), uT _ _ _ _ _ _ (by omega), uT _ _ _ _ _ _ (by omega), mw])])
  rw [upR_0, upR_0] at e
  refine e.trans ?_
  show b_X9_takeAll_L58 E n1 (f_X9_takeAll_L58 E n1 n) _ (ad 0) (ad T) (nI o) (nI 6) = _
  unfold b_X9_takeAll_L58
  rw [if_pos (by decide)]
  generalize hMx : upR (upR Mw (ad 7) 0 6 (fun i => mi M (ad T) (o + 27 + i))) (ad 8) 0 6 (fun i => mi M (ad T) (o + 33 + i)) = Mx
  have mx : ∀ k, mi Mx (ad T) k = mi M (ad T) k := fun k => by rw [← hMx, uT _ _ _ _ _ _ (by omega), uT _ _ _ _ _ _ (by omega), mw]
  clear e
  obtain ⟨n2, e⟩ := loop_FU (fun n (a : Mem) w => f_X9_takeAll_L100 E n1 n a (ad 0) (ad T) (nI o) w) (fun j => upR Mx (ad 12) 0 j (fun i => mi M (ad T) (o + 39 + i))) 18 (by decide) (by
    intro n j hj
    show b_X9_takeAll_L100 E n1 (f_X9_takeAll_L100 E n1 n) _ (ad 0) (ad T) (nI o) (nI j) = _
    unfold b_X9_takeAll_L100
    rw [if_neg (show ¬ (18 : Int32) ≤ nI j from nI_ge (b := 18) hj (by decide)), gd_nI hj (by decide), gd_a (k := 39) (c := 39) rfl (by omega) (by omega), ix_nI (by omega), ix_a (k := 39) (c := 39) rfl (by omega), n_12 hN, nI_1, uT _ _ _ _ _ _ (by omega), mx, upR_s _ _ _ _ (fun i => mi M (ad T) (o + 39 + i)) _ (by omega) _ rfl])
  rw [upR_0] at e
  refine e.trans ?_
  show b_X9_takeAll_L100 E n1 (f_X9_takeAll_L100 E n1 n2) _ (ad 0) (ad T) (nI o) (nI 18) = _
  unfold b_X9_takeAll_L100
  rw [if_pos (by decide)]
  generalize hMy : upR Mx (ad 12) 0 18 (fun i => mi M (ad T) (o + 39 + i)) = My
  have my : ∀ k, mi My (ad T) k = mi M (ad T) k := fun k => by rw [← hMy, uT _ _ _ _ _ _ (by omega), mx]
  clear e
  obtain ⟨n3, e⟩ := loop_FU (fun n (a : Mem) w => f_X9_takeAll_L128 E n1 n a (ad 0) (ad T) (nI o) w) (fun j => upR (upR My (ad 13) 0 j (fun i => mi M (ad T) (o + 57 + i))) (ad 14) 0 j (fun i => mi M (ad T) (o + 81 + i))) 24 (by decide) (by
    intro n j hj
    show b_X9_takeAll_L128 E n1 (f_X9_takeAll_L128 E n1 n) _ (ad 0) (ad T) (nI o) (nI j) = _
    unfold b_X9_takeAll_L128
    dsimp only [nm]
    rw [if_neg (show ¬ (24 : Int32) ≤ nI j from nI_ge (b := 24) hj (by decide)), gd_nI hj (by decide), gd_a (k := 57) (c := 57) rfl (by omega) (by omega), gd_a (k := 81) (c := 81) rfl (by omega) (by omega), ix_nI (by omega), ix_a (k := 57) (c := 57) rfl (by omega), ix_a (k := 81) (c := 81) rfl (by omega), n_13 hN, n_14 hN, nI_1]
    rw [upR_s2 _ (ad 13) 0 (ad 14) 0 j _ _ (fun _ _ _ _ z => d _ _ (by omega) z.1) j j (by omega) (by omega) _ _ (by rw [uT _ _ _ _ _ _ (by omega), uT _ _ _ _ _ _ (by omega), my]) (by rw [mi_wi, if_neg (fun z => d _ _ (by omega) z.1), uT _ _ _ _ _ _ (by omega), uT _ _ _ _ _ _ (by omega), my])])
  rw [upR_0, upR_0] at e
  refine e.trans ?_
  show b_X9_takeAll_L128 E n1 (f_X9_takeAll_L128 E n1 n3) _ (ad 0) (ad T) (nI o) (nI 24) = _
  unfold b_X9_takeAll_L128
  rw [if_pos (by decide)]
  generalize hMz : upR (upR My (ad 13) 0 24 (fun i => mi M (ad T) (o + 57 + i))) (ad 14) 0 24 (fun i => mi M (ad T) (o + 81 + i)) = Mz
  have mz : ∀ k, mi Mz (ad T) k = mi M (ad T) k := fun k => by rw [← hMz, uT _ _ _ _ _ _ (by omega), uT _ _ _ _ _ _ (by omega), my]
  clear e
  obtain ⟨n4, e⟩ := loop_FU (fun n (a : Mem) w => f_X9_takeAll_L170 E n1 n a (ad 0) (ad T) (nI o) w) (fun j => upR Mz (ad 20) 0 j (fun i => mi M (ad T) (o + 105 + i))) 176 (by decide) (by
    intro n j hj
    show b_X9_takeAll_L170 E n1 (f_X9_takeAll_L170 E n1 n) _ (ad 0) (ad T) (nI o) (nI j) = _
    unfold b_X9_takeAll_L170
    rw [if_neg (show ¬ (176 : Int32) ≤ nI j from nI_ge (b := 176) hj (by decide)), gd_nI hj (by decide), gd_a (k := 105) (c := 105) rfl (by omega) (by omega), ix_nI (by omega), ix_a (k := 105) (c := 105) rfl (by omega), n_20 hN, nI_1, uT _ _ _ _ _ _ (by omega), mz, upR_s _ _ _ _ (fun i => mi M (ad T) (o + 105 + i)) _ (by omega) _ rfl])
  rw [upR_0] at e
  refine e.trans ?_
  show b_X9_takeAll_L170 E n1 (f_X9_takeAll_L170 E n1 n4) _ (ad 0) (ad T) (nI o) (nI 176) = _
  unfold b_X9_takeAll_L170
  rw [if_pos (by decide), ← hMz, ← hMy, ← hMx, ← hMw]
  rfl
theorem lv_ta (hI : ∀ n n', ad n = ad n' → n = n') (M : Mem) (T o : Nat) : ∀ k, k < 281 → lv ad (taM ad M T o) k = mi M (ad T) (o + k) := by
  have hJ : ∀ a b, (ad a = ad b) = (a = b) := fun a b => propext ⟨hI a b, fun e => e ▸ rfl⟩
  have tk := lv_tk hI M T o
  have k0 : mi (tkM ad M T o) (ad 0) 2 = mi M (ad T) (o + 0) := (tk 0).trans (if_pos (by omega))
  have k1 : mi (tkM ad M T o) (ad 0) 3 = mi M (ad T) (o + 1) := (tk 1).trans (if_pos (by omega))
  have k2 : ∀ i, i < 6 → mi (tkM ad M T o) (ad 10) i = mi M (ad T) (o + (2 + i)) := fun i hi => (lv_kn hi).symm.trans ((tk (2 + i)).trans (if_pos (by omega)))
  have k3 : ∀ i, i < 6 → mi (tkM ad M T o) (ad 9) i = mi M (ad T) (o + (8 + i)) := fun i hi => (lv_pl hi).symm.trans ((tk (8 + i)).trans (if_pos (by omega)))
  have k4 : ∀ i, i < 8 → mi (tkM ad M T o) (ad 11) i = mi M (ad T) (o + (14 + i)) := fun i hi => (lv_st hi).symm.trans ((tk (14 + i)).trans (if_pos (by omega)))
  unfold taM
  refine lv_cases (P := fun k v => v = mi M (ad T) (o + k)) ?_ ?_ (fun i hi => ?_) (fun i hi => ?_) (fun i hi => ?_) ?_ ?_ ?_ ?_ ?_ (fun i hi => ?_) (fun i hi => ?_) (fun i hi => ?_) (fun i hi => ?_) (fun i hi => ?_) (fun i hi => ?_)
  all_goals simp only [mi_upR, mi_wi, hJ]
  all_goals simp [*, Nat.add_assoc]
theorem Mo_ta (hI : ∀ n n', ad n = ad n' → n = n') (M : Mem) (T o : Nat) : Mo ad M (taM ad M T o) ∧ ∀ k, (k = 17 ∨ k = 18) → mi (taM ad M T o) (ad 0) k = mi M (ad 0) k := by
  have d : ∀ a b, a ≠ b → ¬ ad a = ad b := fun a b h z => h (hI _ _ z)
  refine ⟨(Mo_st (St_tk hI M T o)).tr ((Mo_wi hI (by omega)).tr ((Mo_wi hI (by omega)).tr ((Mo_wi hI (by omega)).tr ((Mo_wi hI (by omega)).tr ((Mo_wi hI (by omega)).tr ((Mo_upR hI (by omega)).tr ((Mo_upR hI (by omega)).tr ((Mo_upR hI (by omega)).tr ((Mo_upR hI (by omega)).tr ((Mo_upR hI (by omega)).tr (Mo_upR hI (by omega)))))))))))), fun k hk => ?_⟩
  unfold taM
  rw [mi_upR, if_neg (fun z => d _ _ (by omega) z.1), mi_upR, if_neg (fun z => d _ _ (by omega) z.1), mi_upR, if_neg (fun z => d _ _ (by omega) z.1), mi_upR, if_neg (fun z => d _ _ (by omega) z.1), mi_upR, if_neg (fun z => d _ _ (by omega) z.1), mi_upR, if_neg (fun z => d _ _ (by omega) z.1), mi_wi, if_neg (by omega), mi_wi, if_neg (by omega), mi_wi, if_neg (by omega), mi_wi, if_neg (by omega), mi_wi, if_neg (by omega)]
  exact (St_tk hI M T o).2.1 k (by omega) (by omega)
theorem IB_congr {f g : Nat → Int32} (ho : okH h) (e : ∀ k, k < 281 → g k = f k) (hb : IB f h) : IB g h := by
  obtain ⟨a1, a2, a3, a4, a5, a6, a7, a8, a9, b1, b2, b3⟩ := hb
  have hp := ho.1.1
  have hu := ho.2.2.1
  have hA := ho.2.2.2.2.1
  have hB := ho.2.2.2.2.2.1
  have hC := ho.2.2.2.2.2.2.1
  exact ⟨(e _ (by omega)).trans a1, fun i hi => (e _ (by omega)).trans (a2 i hi), fun i hi => (e _ (by omega)).trans (a3 i hi), BS_sh hp (fun i hi => e _ (by omega)) a4, (e _ (by omega)).trans a5, fun j hj => BS_sh hp (fun i hi => e _ (by omega)) (a6 j hj), (e _ (by omega)).trans a7, (e _ (by omega)).trans a8, (e _ (by omega)).trans a9, fun k hk => (e _ (by omega)).trans (b1 k hk), fun k hk => (e _ (by omega)).trans (b2 k hk), fun k hk => (e _ (by omega)).trans (b3 k hk)⟩
theorem ok_from (hI : Inv E x m M) : al_from Inv E x m M := by
  intro a1
  obtain ⟨ad, h, pi, hN, ho, hc, hb, k1, k2, k3, k4, k5⟩ := id hI
  obtain ⟨rfl, rfl⟩ : m = ad 0 ∧ x = ad 50 := ⟨hN.1.symm, hN.2.1.symm⟩
  have r := RO_of ho.1.1 hb
  have hH := hn_of hN (H := 100) (Or.inl rfl)
  have hS := sn_of hN (H := 100) (Or.inl rfl)
  have hT : sT (oS h) < 2 ^ 31 := by have := ho.2.1; omega
  have hp : oP h ≤ 6 := ho.1.1
  have hI' := hN.2.2.1
  have hP : ∀ j, j < 8 → SN E ad (100 + 16 + 4 * j) := fun j hj => (sp_of hN (H := 100) (Or.inl rfl) hj).1
  have n2 := n_52 hN
  by_cases g : (0 : Int32) ≤ a1 ∧ a1 ≤ 1
  · obtain ⟨i, hi, e1⟩ := rg (n := 1) (by decide) g
    obtain ⟨q1, ⟨pq, q2⟩, q3⟩ := k4 i (by omega)
    have ni : rr E (ad 52) i = ad (300 + 100 * i) := by
      rcases (show i = 0 ∨ i = 1 by omega) with rfl | rfl
      · exact n_300 hN
      · exact n_400 hN
    by_cases hz : mi M (ad 53) i = 0
    · exact fin_no hN ho hc hb k1 k2 k3 k4 k5 (by unfold f_X8_from; rw [wi_t g, if_neg I10, e1, gd_nI (by omega) (by decide), ix_nI (by omega), n_53 hN, if_pos hz]; rfl) (fun M1 u => by unfold f_X9_from; rw [in_t g, if_neg I10, e1, gd_nI (by omega) (by decide), ix_nI (by omega), n_28 hN, u 28 (by decide) i, ← q1, if_pos hz]; rfl)
    · rcases q3 with q3 | ⟨g0, pg, g1, g2, g3⟩
      · exact absurd q3 hz
      · obtain ⟨Ma, ea, ca, oa⟩ := copyFrom_sp hN (Or.inl rfl) (show isH (300 + 100 * i) by unfold isH; omega) (by omega) g1 hc.2.2.2.2.2.1 g2
        have cl : Cl ad M Ma := Cl_off oa (by omega)
        obtain ⟨mo, -⟩ := Mo_ta hI' Ma 27 (300 * i)
        refine fin hN k1 k2 k3 k4 k5 g1 (r := 1) (M1 := Ma) (M2 := taM ad Ma 27 (300 * i)) ?_ cl ca ?_ mo (IB_congr g1 (fun k hk => (lv_ta hI' Ma 27 (300 * i) k hk).trans (oa.1 27 (by omega) _)) g3)
        · unfold f_X8_from
          rw [wi_t g, if_neg I10, e1, gd_nI (by omega) (by decide), ix_nI (by omega), n_53 hN, if_neg hz, n_100 hN, n2, ni, ea]
          rfl
        · unfold f_X9_from
          rw [in_t g, if_neg I10, e1, gd_nI (by omega) (by decide), ix_nI (by omega), n_28 hN, cl.mu 28 (by decide) i, ← q1, if_neg hz, n_27 hN, show (300 : Int32) * nI i = nI (300 * i) from pk_mul 300 i, takeAll_eq hN (by omega) (by omega) (by decide)]
          rfl
  · exact fin_bad hN ho hc hb k1 k2 k3 k4 k5 (by unfold f_X8_from; rw [wi_f g, if_pos I00]; rfl) (fun M1 u => by unfold f_X9_from; rw [in_f g, if_pos I00]; rfl)
theorem ok_image (hI : Inv E x m M) : al_image Inv E x m M := by
  intro a1
  obtain ⟨ad, h, pi, hN, ho, hc, hb, k1, k2, k3, k4, k5⟩ := id hI
  obtain ⟨rfl, rfl⟩ : m = ad 0 ∧ x = ad 50 := ⟨hN.1.symm, hN.2.1.symm⟩
  have r := RO_of ho.1.1 hb
  have hH := hn_of hN (H := 100) (Or.inl rfl)
  have hS := sn_of hN (H := 100) (Or.inl rfl)
  have hT : sT (oS h) < 2 ^ 31 := by have := ho.2.1; omega
  have hp : oP h ≤ 6 := ho.1.1
  have hI' := hN.2.2.1
  have hP : ∀ j, j < 8 → SN E ad (100 + 16 + 4 * j) := fun j hj => (sp_of hN (H := 100) (Or.inl rfl) hj).1
  have d : ∀ a b, a ≠ b → ¬ ad a = ad b := fun a b h z => h (hI' _ _ z)
  by_cases g : (0 : Int32) ≤ a1 ∧ a1 ≤ 1
  · obtain ⟨i, hi, e1⟩ := rg (n := 1) (by decide) g
    obtain ⟨q1, ⟨pq, q2⟩, q3⟩ := k4 i (by omega)
    have ni : rr E (ad 52) i = ad (300 + 100 * i) := by
      rcases (show i = 0 ∨ i = 1 by omega) with rfl | rfl
      · exact n_300 hN
      · exact n_400 hN
    obtain ⟨Ma, ea, ca, oa⟩ := copyFrom_sp hN (show isH (300 + 100 * i) by unfold isH; omega) (Or.inl rfl) (by omega) ho q2 hc
    have oa53 : mi Ma (ad 53) = mi M (ad 53) := funext fun k => oa.1 53 (by omega) k
    generalize hM1 : wi Ma (ad 53) i 1 = M1
    have f1 : ∀ n, n ≠ 53 → ∀ k, mi M1 (ad n) k = mi Ma (ad n) k := fun n hn k => by rw [← hM1, mi_wi, if_neg (fun z => d _ _ hn z.1)]
    have f53 : ∀ k, mi M1 (ad 53) k = if k = i then 1 else mi M (ad 53) k := fun k => by
      rw [← hM1, mi_wi]
      by_cases e : k = i
      · rw [if_pos ⟨rfl, e⟩, if_pos e]
      · rw [if_neg (fun z => e z.2), if_neg e, oa53]
    have l1 : M1.2 = M.2 := by rw [← hM1]; exact oa.2
    have mu1 : ∀ n, n < 50 → ∀ k, mi M1 (ad n) k = mi M (ad n) k := fun n hn k => (f1 n (by omega) k).trans (oa.1 n (by omega) k)
    generalize hMk : wi M1 (ad 28) i 1 = Mk
    have lvk : lv ad Mk = lv ad M := by
      rw [← lv_all mu1, ← hMk]
      funext j
      unfold lv
      have q : ∀ n, n ≠ 28 → ∀ k, mi (wi M1 (ad 28) i 1) (ad n) k = mi M1 (ad n) k := fun n hn k => by rw [mi_wi, if_neg (fun z => d _ _ hn z.1)]
      simp only [q 0 (by omega), q 10 (by omega), q 9 (by omega), q 11 (by omega), q 7 (by omega), q 8 (by omega), q 12 (by omega), q 13 (by omega), q 14 (by omega), q 20 (by omega)]
    refine ⟨1, M1, upR Mk (ad 27) (300 * i) 281 (lv ad Mk), ?_, ?_, ?_⟩
    · unfold f_X8_image
      rw [wi_t g, if_neg I10, e1, gd_nI (by omega) (by decide), ix_nI (by omega), n_52 hN, ni, n_100 hN, ea, Option.bind_some, n_53 hN, ← hM1]
      rfl
    · unfold f_X9_image
      rw [in_t g, if_neg I10, e1, gd_nI (by omega) (by decide), ix_nI (by omega), n_28 hN, hMk, n_27 hN, show (300 : Int32) * nI i = nI (300 * i) from pk_mul 300 i, layAll_eq hN (by omega) (by omega) (by decide)]
      rfl
    · have f2 : ∀ n, n ≠ 27 → n ≠ 28 → n ≠ 53 → n < 300 → ∀ k, mi (upR Mk (ad 27) (300 * i) 281 (lv ad Mk)) (ad n) k = mi M (ad n) k := fun n h1 h2 h3 h4 k => by
        rw [mi_upR, if_neg (fun z => d _ _ h1 z.1), ← hMk, mi_wi, if_neg (fun z => d _ _ h2 z.1), f1 n h3, oa.1 n (by omega)]
      have f3 : ∀ n, 300 ≤ n → ∀ k, mi (upR Mk (ad 27) (300 * i) 281 (lv ad Mk)) (ad n) k = mi Ma (ad n) k := fun n h1 k => by
        rw [mi_upR, if_neg (fun z => d _ _ (by omega) z.1), ← hMk, mi_wi, if_neg (fun z => d _ _ (by omega) z.1), f1 n (by omega)]
      have rm : ∀ n k, mr (upR Mk (ad 27) (300 * i) 281 (lv ad Mk)) n k = mr M n k := fun n k => by
        rw [mr_upR, ← hMk, mr_wi]
        exact congrArg (fun z => z.2 n k) l1
      have rma : ∀ n k, mr Ma n k = mr M n k := fun n k => congrArg (fun z => z.2 n k) oa.2
      have lm : ∀ n k, ml (upR Mk (ad 27) (300 * i) 281 (lv ad Mk)) n k = ml M n k := fun n k => by
        rw [ml_upR, ← hMk, ml_wi]
        exact congrArg (fun z => z.1 n k) l1
      have f53' : ∀ k, mi (upR Mk (ad 27) (300 * i) 281 (lv ad Mk)) (ad 53) k = if k = i then 1 else mi M (ad 53) k := fun k => by
        rw [mi_upR, if_neg (fun z => d _ _ (by omega) z.1), ← hMk, mi_wi, if_neg (fun z => d _ _ (by omega) z.1)]
        exact f53 k
      have f28 : ∀ k, mi (upR Mk (ad 27) (300 * i) 281 (lv ad Mk)) (ad 28) k = if k = i then 1 else mi M (ad 28) k := fun k => by
        rw [mi_upR, if_neg (fun z => d _ _ (by omega) z.1), ← hMk, mi_wi]
        by_cases e : k = i
        · rw [if_pos ⟨rfl, e⟩, if_pos e]
        · rw [if_neg (fun z => e z.2), if_neg e, mu1 28 (by omega)]
      have f27 : ∀ k, mi (upR Mk (ad 27) (300 * i) 281 (lv ad Mk)) (ad 27) k = if 300 * i ≤ k ∧ k < 300 * i + 281 then lv ad M (k - 300 * i) else mi M (ad 27) k := fun k => by
        rw [mi_upR, lvk]
        by_cases e : 300 * i ≤ k ∧ k < 300 * i + 281
        · rw [if_pos ⟨rfl, e⟩, if_pos e]
        · rw [if_neg (fun z => e z.2), if_neg e, ← hMk, mi_wi, if_neg (fun z => d _ _ (by omega) z.1), mu1 27 (by omega)]
      generalize hM2 : upR Mk (ad 27) (300 * i) 281 (lv ad Mk) = M2 at f2 f3 rm lm f53' f28 f27
      refine ⟨ad, h, pi, hN, ho, CH_sm (M := M) ho.2.2.1 (fun n hn k => ⟨f2 n (by omega) (by omega) (by omega) (by omega) k, rm _ _⟩) hc, ?_, fun c hcc => ?_, ⟨?_, ?_⟩, ?_, fun j hj => ?_, ?_⟩
      · have e : lv ad M2 = lv ad M := by
          funext j
          unfold lv
          have q : ∀ n, n < 27 → ∀ k, mi M2 (ad n) k = mi M (ad n) k := fun n hn k => f2 n (by omega) (by omega) (by omega) (by omega) k
          simp only [q 0 (by omega), q 10 (by omega), q 9 (by omega), q 11 (by omega), q 7 (by omega), q 8 (by omega), q 12 (by omega), q 13 (by omega), q 14 (by omega), q 20 (by omega)]
        rw [e]
        exact hb
      · rw [f2 50 (by omega) (by omega) (by omega) (by omega), f2 1 (by omega) (by omega) (by omega) (by omega)]
        exact k1 c hcc
      · rw [lm, lm]; exact k2.1
      · rw [lm, lm]; exact k2.2
      · obtain ⟨t, t1, t2, t3, t4⟩ := k3
        refine ⟨t, t1, (f2 54 (by omega) (by omega) (by omega) (by omega) 0).trans t2, (f2 0 (by omega) (by omega) (by omega) (by omega) 16).trans t3, fun j hj => ?_⟩
        rw [f2 56 (by omega) (by omega) (by omega) (by omega), f2 15 (by omega) (by omega) (by omega) (by omega)]
        exact t4 j hj
      · obtain ⟨z1, ⟨pz, z2⟩, z3⟩ := k4 j hj
        rw [f53', f28]
        by_cases e : j = i
        · subst e
          rw [if_pos rfl, if_pos rfl]
          refine ⟨rfl, ⟨pz, PM_sm (fun k => rm _ _) z2⟩, Or.inr ⟨h, pq, ho, CH_sm (M := Ma) ho.2.2.1 (fun n hn k => ⟨f3 n (by omega) k, (rm _ _).trans (rma _ _).symm⟩) ca, IB_congr ho (fun k hk => ?_) hb⟩⟩
          show mi M2 (ad 27) (300 * j + k) = _
          rw [f27, if_pos (by omega), Nat.add_sub_cancel_left]
        · rw [if_neg e, if_neg e]
          refine ⟨z1, ⟨pz, PM_sm (fun k => rm _ _) z2⟩, ?_⟩
          rcases z3 with z3 | ⟨g0, pg, g1, g2, g3⟩
          · exact Or.inl z3
          · refine Or.inr ⟨g0, pg, g1, CH_sm (M := M) g1.2.2.1 (fun n hn k => ⟨(f3 n (by omega) k).trans (oa.1 n (by omega) k), rm _ _⟩) g2, IB_congr g1 (fun k hk => ?_) g3⟩
            show mi M2 (ad 27) (300 * j + k) = _
            rw [f27, if_neg (by omega)]
      · obtain ⟨pd, k5⟩ := k5
        exact ⟨pd, PM_sm (fun k => rm _ _) k5⟩
  · exact fin_bad hN ho hc hb k1 k2 k3 k4 k5 (by unfold f_X8_image; rw [wi_f g, if_pos I00]; rfl) (fun M1 u => by unfold f_X9_image; rw [in_f g, if_pos I00]; rfl)
end Al46
