/-! a house anew, one more, rows, the text -/
section Al42
variable {E : Env1} {x m : Nat} {ad : Nat → Nat} {M M1 M2 : Mem} {h h' : Ho} {pi pi' : Nat → Nat} {p H : Nat}
/-- the reference's cells, one by one -/
def LV (ad : Nat → Nat) (M : Mem) (h : Ho) : Prop := RO ad M h ∧ mi M (ad 0) 21 = nI (oU h) ∧ (∀ j, j < oU h → BS (fun k => mi M (ad 20) k) (22 * j) (oP h) (oL h j)) ∧ mi M (ad 0) 4 = nI (oA h) ∧ mi M (ad 0) 5 = nI (oB h) ∧ mi M (ad 0) 6 = nI (oC h) ∧ (∀ k, k < 3 * oA h → mi M (ad 12) k = oX h k) ∧ (∀ k, k < 4 * oB h → mi M (ad 13) k = oY h k) ∧ ∀ k, k < 4 * oC h → mi M (ad 14) k = oZ h k
theorem IB_LV (hp : oP h ≤ 6) (hA : oA h ≤ 6) (hB : oB h ≤ 6) (hC : oC h ≤ 6) : IB (lv ad M) h ↔ LV ad M h := by
  constructor
  · intro hb
    have r := RO_of hp hb
    obtain ⟨a1, a2, a3, a4, a5, a6, a7, a8, a9, b1, b2, b3⟩ := hb
    exact ⟨r, a5, fun j hj => BS_sh hp (fun i hi => by rw [Nat.add_assoc, lv_ah]) (a6 j hj), a7, a8, a9, fun k hk => by have := b1 k hk; rwa [lv_so (by omega)] at this, fun k hk => by have := b2 k hk; rwa [lv_no (by omega)] at this, fun k hk => by have := b3 k hk; rwa [lv_ma (by omega)] at this⟩
  · intro ⟨⟨r1, r2, r3, r4⟩, a5, a6, a7, a8, a9, b1, b2, b3⟩
    exact ⟨r1, fun i hi => by rw [lv_kd (by omega)]; exact r2 i hi, fun i hi => by rw [lv_wt (by omega)]; exact r3 i hi, (ML_BS hp).mpr r4, a5, fun j hj => BS_sh hp (fun i hi => by rw [Nat.add_assoc, lv_ah]) (a6 j hj), a7, a8, a9, fun k hk => by rw [lv_so (by omega)]; exact b1 k hk, fun k hk => by rw [lv_no (by omega)]; exact b2 k hk, fun k hk => by rw [lv_ma (by omega)]; exact b3 k hk⟩
theorem LV_of (ho : okH h) (hb : IB (lv ad M) h) : LV ad M h := (IB_LV ho.1.1 ho.2.2.2.2.1 ho.2.2.2.2.2.1 ho.2.2.2.2.2.2.1).mp hb
theorem IB_of (ho : okH h) (hb : LV ad M h) : IB (lv ad M) h := (IB_LV ho.1.1 ho.2.2.2.2.1 ho.2.2.2.2.2.1 ho.2.2.2.2.2.2.1).mpr hb
/-! a house anew -/
def newH (h : Ho) : Ho := (0, oK h, oW h, newS, 0, oL h, (0, 0, 0), oX h, oY h, oZ h)
theorem okH_new (h : Ho) : okH (newH h) := ⟨⟨by show 0 ≤ 6; omega, fun i hi => absurd hi (Nat.not_lt_zero i), fun i hi => absurd hi (Nat.not_lt_zero i), okS_new 0⟩, by show 0 ≤ 9999; omega, by show 0 ≤ 8; omega, fun j hj => absurd hj (Nat.not_lt_zero j), by show 0 ≤ 6; omega, by show 0 ≤ 6; omega, by show 0 ≤ 6; omega, fun j hj => absurd hj (Nat.not_lt_zero j)⟩
theorem empty_sp (hI : ∀ n n', ad n = ad n' → n = n') (hH : HN E ad H) (hS : SN E ad (H + 12)) (h : Ho) (M : Mem) (c6 : PM ad M H pi) : ∃ M1, f_X0_empty E M (ad H) = some M1 ∧ CH ad M1 H (newH h) pi ∧ Off ad M M1 H (H + 16) := by
  unfold f_X0_empty
  rw [hH.2.2.1, hH.2.2.2.2.1, hH.2.2.2.2.2.1, hH.2.2.2.2.2.2.1]
  obtain ⟨Ma, ea, ca, oa⟩ := reset_sp hI hS (wi M (ad H) 0 0)
  rw [ea, Option.bind_some]
  have d : ∀ a b, a ≠ b → ¬ ad a = ad b := fun a b h z => h (hI _ _ z)
  unfold f_X4_drop
  dsimp only [nm]
  refine ⟨_, rfl, ⟨⟨?_, fun i hi => absurd hi (Nat.not_lt_zero i), fun i hi => absurd hi (Nat.not_lt_zero i), ?_⟩, ?_, ⟨?_, fun _ _ hi => absurd hi (Nat.not_lt_zero _)⟩, ⟨?_, fun _ _ hi => absurd hi (Nat.not_lt_zero _)⟩, ⟨?_, fun _ _ hi => absurd hi (Nat.not_lt_zero _)⟩, PM_sm (fun k => oa.mr _ _) c6, fun j hj => absurd hj (Nat.not_lt_zero j)⟩, ?_⟩
  · rw [mi_wi, if_neg (fun z => d _ _ (by omega) z.1), mi_wi, if_neg (fun z => d _ _ (by omega) z.1), mi_wi, if_neg (fun z => d _ _ (by omega) z.1), mi_wi, if_neg (by omega), oa.1 H (by omega) 0, mi_wi, if_pos ⟨rfl, rfl⟩]; rfl
  · exact CS_same (M := Ma) (fun n h1 h2 k => by rw [mi_wi, if_neg (fun z => d _ _ (by omega) z.1), mi_wi, if_neg (fun z => d _ _ (by omega) z.1), mi_wi, if_neg (fun z => d _ _ (by omega) z.1), mi_wi, if_neg (fun z => d _ _ (by omega) z.1)]) ca
  · rw [mi_wi, if_neg (fun z => d _ _ (by omega) z.1), mi_wi, if_neg (fun z => d _ _ (by omega) z.1), mi_wi, if_neg (fun z => d _ _ (by omega) z.1), mi_wi, if_pos ⟨rfl, rfl⟩]; rfl
  · rw [mi_wi, if_neg (fun z => d _ _ (by omega) z.1), mi_wi, if_neg (fun z => d _ _ (by omega) z.1), mi_wi, if_pos ⟨rfl, rfl⟩]; rfl
  · rw [mi_wi, if_neg (fun z => d _ _ (by omega) z.1), mi_wi, if_pos ⟨rfl, rfl⟩]; rfl
  · rw [mi_wi, if_pos ⟨rfl, rfl⟩]; rfl
  · exact (Off_wi hI M (by omega)).tr ((oa.mono (by omega) (by omega)).tr ((Off_wi hI _ (by omega)).tr ((Off_wi hI _ (by omega)).tr ((Off_wi hI _ (by omega)).tr (Off_wi hI _ (by omega))))))
theorem begin9_sp (hN : Nm E (ad 50) (ad 0) ad) (h : Ho) (M : Mem) : ∃ M2, f_X9_begin E M (ad 0) = some M2 ∧ IB (lv ad M2) (newH h) ∧ Mo ad M M2 ∧ (∀ k, (k = 17 ∨ k = 18) → mi M2 (ad 0) k = mi M (ad 0) k) ∧ ∀ n, n ≠ 0 → n ≠ 11 → ∀ k, mi M2 (ad n) k = mi M (ad n) k := by
  have hI := hN.2.2.1
  obtain ⟨M2, e, hq, h2⟩ := begin_spec E M (ad 0)
  rw [n_11 hN] at hq
  have d : ∀ a b, a ≠ b → ¬ ad a = ad b := fun a b h z => h (hI _ _ z)
  have c0 : ∀ k, (k = 1 ∨ k = 2 ∨ k = 3 ∨ k = 4 ∨ k = 5 ∨ k = 6 ∨ k = 21) → mi M2 (ad 0) k = 0 := fun k hk => by rw [hq, if_neg (fun z => d _ _ (by omega) z.1), if_pos ⟨rfl, hk⟩]
  have c1 : ∀ k, ¬ (k = 1 ∨ k = 2 ∨ k = 3 ∨ k = 4 ∨ k = 5 ∨ k = 6 ∨ k = 21) → mi M2 (ad 0) k = mi M (ad 0) k := fun k hk => by rw [hq, if_neg (fun z => d _ _ (by omega) z.1), if_neg (fun z => hk z.2)]
  have c2 : ∀ n, n ≠ 0 → n ≠ 11 → ∀ k, mi M2 (ad n) k = mi M (ad n) k := fun n h0 h1 k => by rw [hq, if_neg (fun z => d _ _ (by omega) z.1), if_neg (fun z => d _ _ (by omega) z.1)]
  refine ⟨M2, e, IB_of (okH_new h) ⟨⟨c0 1 (by omega), fun i hi => absurd hi (Nat.not_lt_zero i), fun i hi => absurd hi (Nat.not_lt_zero i), c0 2 (by omega), c0 3 (by omega), fun i hi => absurd hi (Nat.not_lt_zero i), fun i hi => absurd hi (Nat.not_lt_zero i), fun k hk => ?_⟩, c0 21 (by omega), fun i hi => absurd hi (Nat.not_lt_zero i), c0 4 (by omega), c0 5 (by omega), c0 6 (by omega), fun i hi => absurd hi (Nat.not_lt_zero i), fun i hi => absurd hi (Nat.not_lt_zero i), fun i hi => absurd hi (Nat.not_lt_zero i)⟩, ⟨fun n hn k => c2 n (by omega) (by omega) k, c1 16 (by omega), congrArg (fun z => z.2) h2, fun k _ => ⟨congrArg (fun z => z.1 (ad 0) k) h2, congrArg (fun z => z.1 (ad 50) (k - 19)) h2⟩⟩, fun k hk => c1 k (by omega), c2⟩
  rw [hq, if_pos ⟨rfl, hk⟩]
  rfl
theorem ok_house (hI : Inv E x m M) : al_house Inv E x m M := by
  obtain ⟨ad, h, pi, hN, ho, hc, hb, k1, k2, k3, k4, k5⟩ := id hI
  obtain ⟨rfl, rfl⟩ : m = ad 0 ∧ x = ad 50 := ⟨hN.1.symm, hN.2.1.symm⟩
  have r := RO_of ho.1.1 hb
  have hH := hn_of hN (H := 100) (Or.inl rfl)
  have hS := sn_of hN (H := 100) (Or.inl rfl)
  have hT : sT (oS h) < 2 ^ 31 := by have := ho.2.1; omega
  have hp : oP h ≤ 6 := ho.1.1
  have hI' := hN.2.2.1
  have hP : ∀ j, j < 8 → SN E ad (100 + 16 + 4 * j) := fun j hj => (sp_of hN (H := 100) (Or.inl rfl) hj).1
  obtain ⟨Ma, ea, ca, oa⟩ := empty_sp hI' hH hS h M hc.2.2.2.2.2.1
  have cl : Cl ad M Ma := Cl_off oa (by omega)
  obtain ⟨M2, e2, b2, m2, -⟩ := begin9_sp hN h Ma
  refine fin hN k1 k2 k3 k4 k5 (okH_new h) (r := nI (oP h)) ?_ cl ca ?_ m2 b2
  · unfold f_X8_house
    rw [n_100 hN, ea, Option.bind_some, hc.1.1]
  · unfold f_X9_house
    rw [e2, Option.bind_some, (cl.mu 0 (by decide) 1).trans r.1]
/-! one more -/
def addS (h : Ho) (k w : Nat) : Ho := (oP h + 1, upN (oK h) (oP h) k, upN (oW h) (oP h) w, oS h, 0, oL h, h.2.2.2.2.2.2)
theorem okH_add (ho : okH h) {k w : Nat} (hp : oP h < 6) (hk : k < 6) (hw : w ≤ 12) : okH (addS h k w) := by
  obtain ⟨⟨h1, h2, h3, h4⟩, h5, h6, h7, h8⟩ := ho
  refine ⟨⟨by show oP h + 1 ≤ 6; omega, fun i hi => ?_, fun i hi => ?_, h4.1, h4.2.1, h4.2.2.1, h4.2.2.2.1, h4.2.2.2.2.1, fun i hi => h4.2.2.2.2.2 i (by have hi : oP h + 1 ≤ i := hi; omega)⟩, h5, by show 0 ≤ 8; omega, fun j hj => absurd hj (Nat.not_lt_zero j), h8⟩
  · have hi : i < oP h + 1 := hi
    show (if i = oP h then k else oK h i) < 6
    split
    · exact hk
    · exact h2 i (by omega)
  · have hi : i < oP h + 1 := hi
    show (if i = oP h then w else oW h i) ≤ 12
    split
    · exact hw
    · exact h3 i (by omega)
theorem welcome_sp (hI : ∀ n n', ad n = ad n' → n = n') (hH : HN E ad H) {k w : Nat} (hp : oP h < 6) (c : CH ad M H h pi) : ∃ M1, f_X0_welcome E M (ad H) (nI k) (nI w) = some M1 ∧ CH ad M1 H (addS h k w) pi ∧ Off ad M M1 H (H + 16) := by
  obtain ⟨c1, c2, c3, c4, c5, c6, c7⟩ := c
  have d : ∀ a b, a ≠ b → ¬ ad a = ad b := fun a b h z => h (hI _ _ z)
  unfold f_X0_welcome
  dsimp only [nm]
  have m0 : mi (wi M (ad (H + 1)) (oP h) (nI k)) (ad H) 0 = nI (oP h) := by rw [mi_wi, if_neg (fun z => d _ _ (by omega) z.1)]; exact c1.1
  rw [c1.1, within_p E M (nI_pos' (by omega)) (show nI (oP h) ≤ (5 : Int32) from nI_le (a := oP h) (b := 5) (by omega) (by decide)), if_neg I10, gd_nI hp (by decide), hH.1, hH.2.1, ix_nI (by omega), m0, gd_nI hp (by decide), ix_nI (by omega)]
  have m1 : mi (wi (wi M (ad (H + 1)) (oP h) (nI k)) (ad (H + 2)) (oP h) (nI w)) (ad H) 0 = nI (oP h) := by rw [mi_wi, if_neg (fun z => d _ _ (by omega) z.1)]; exact m0
  rw [m1, nI_1]
  have f1 : ∀ n j, (n ≠ H + 1 ∧ n ≠ H + 2 ∧ n ≠ H) → mi (wi (wi (wi (wi M (ad (H + 1)) (oP h) (nI k)) (ad (H + 2)) (oP h) (nI w)) (ad H) 0 (nI (oP h + 1))) (ad H) 5 0) (ad n) j = mi M (ad n) j := fun n j hn => by
    rw [mi_wi, if_neg (fun z => d _ _ (by omega) z.1), mi_wi, if_neg (fun z => d _ _ (by omega) z.1), mi_wi, if_neg (fun z => d _ _ (by omega) z.1), mi_wi, if_neg (fun z => d _ _ (by omega) z.1)]
  refine ⟨_, rfl, ⟨⟨?_, fun i hi => ?_, fun i hi => ?_, ?_⟩, ?_, ?_, ?_, ?_, c6, fun j hj => absurd hj (Nat.not_lt_zero j)⟩, (Off_wi hI M (by omega)).tr ((Off_wi hI _ (by omega)).tr ((Off_wi hI _ (by omega)).tr (Off_wi hI _ (by omega))))⟩
  · rw [mi_wi, if_neg (by omega), mi_wi, if_pos ⟨rfl, rfl⟩]; rfl
  · have hi : i < oP h + 1 := hi
    rw [mi_wi, if_neg (fun z => d _ _ (by omega) z.1), mi_wi, if_neg (fun z => d _ _ (by omega) z.1), mi_wi, if_neg (fun z => d _ _ (by omega) z.1), mi_wi]
    show _ = nI (if i = oP h then k else oK h i)
    by_cases e : i = oP h
    · rw [if_pos ⟨rfl, e⟩, if_pos e]
    · rw [if_neg (fun z => e z.2), if_neg e]; exact c1.2.1 i (by omega)
  · have hi : i < oP h + 1 := hi
    rw [mi_wi, if_neg (fun z => d _ _ (by omega) z.1), mi_wi, if_neg (fun z => d _ _ (by omega) z.1), mi_wi]
    show _ = nI (if i = oP h then w else oW h i)
    by_cases e : i = oP h
    · rw [if_pos ⟨rfl, e⟩, if_pos e]
    · rw [if_neg (fun z => e z.2), if_neg e, mi_wi, if_neg (fun z => d _ _ (by omega) z.1)]; exact c1.2.2.1 i (by omega)
  · exact CS_same (fun n h1 h2 j => f1 n j (by omega)) c1.2.2.2
  · rw [mi_wi, if_pos ⟨rfl, rfl⟩]; rfl
  · exact CR_sm (fun j _ _ k => f1 j k (by omega)) c3
  · exact CR_sm (fun j _ _ k => f1 j k (by omega)) c4
  · exact CR_sm (fun j _ _ k => f1 j k (by omega)) c5
theorem addOne_sp (hN : Nm E (ad 50) (ad 0) ad) (ho : okH h) {k w : Nat} (hp : oP h < 6) (hk : k < 6) (hw : w ≤ 12) (hb : IB (lv ad M) h) : ∃ M2, f_X9_addOne E M (ad 0) (nI k) (nI w) = some (nI (oP h), M2) ∧ IB (lv ad M2) (addS h k w) ∧ Mo ad M M2 ∧ ∀ k, (k = 17 ∨ k = 18) → mi M2 (ad 0) k = mi M (ad 0) k := by
  have hI := hN.2.2.1
  have d : ∀ a b, a ≠ b → ¬ ad a = ad b := fun a b h z => h (hI _ _ z)
  have l := LV_of ho hb
  have hm : mi M (ad 0) 1 = nI (oP h) := l.1.1
  have m1 : ∀ (M : Mem) (a j : Nat) (v : Int32), a ≠ 0 → mi M (ad 0) 1 = nI (oP h) → mi (wi M (ad a) j v) (ad 0) 1 = nI (oP h) := fun M a j v ha hm => by rw [mi_wi, if_neg (fun z => d _ _ (Ne.symm ha) z.1)]; exact hm
  unfold f_X9_addOne
  dsimp only [nm]
  rw [n_7 hN, n_8 hN, n_9 hN, n_10 hN, hm, gd_nI hp (by decide), ix_nI (by omega), m1 _ _ _ _ (by omega) hm, gd_nI hp (by decide), ix_nI (by omega), m1 _ _ _ _ (by omega) (m1 _ _ _ _ (by omega) hm), gd_nI hp (by decide), ix_nI (by omega), m1 _ _ _ _ (by omega) (m1 _ _ _ _ (by omega) (m1 _ _ _ _ (by omega) hm)), gd_nI hp (by decide), ix_nI (by omega), m1 _ _ _ _ (by omega) (m1 _ _ _ _ (by omega) (m1 _ _ _ _ (by omega) (m1 _ _ _ _ (by omega) hm))), nI_1, mi_wi, if_neg (by omega), mi_wi, if_pos ⟨rfl, rfl⟩, nI_pred]
  generalize hM2 : wi (wi (wi (wi (wi (wi M (ad 7) (oP h) (nI k)) (ad 8) (oP h) (nI w)) (ad 9) (oP h) (-1)) (ad 10) (oP h) 0) (ad 0) 1 (nI (oP h + 1))) (ad 0) 21 0 = M2
  have f0 : ∀ j, j ≠ 1 → j ≠ 21 → mi M2 (ad 0) j = mi M (ad 0) j := fun j h1 h2 => by
    rw [← hM2, mi_wi, if_neg (by omega), mi_wi, if_neg (by omega), mi_wi, if_neg (fun z => d _ _ (by omega) z.1), mi_wi, if_neg (fun z => d _ _ (by omega) z.1), mi_wi, if_neg (fun z => d _ _ (by omega) z.1), mi_wi, if_neg (fun z => d _ _ (by omega) z.1)]
  have f1 : ∀ n, n ≠ 0 → n ≠ 7 → n ≠ 8 → n ≠ 9 → n ≠ 10 → ∀ j, mi M2 (ad n) j = mi M (ad n) j := fun n h0 h7 h8 h9 h10 j => by
    rw [← hM2, mi_wi, if_neg (fun z => d _ _ (by omega) z.1), mi_wi, if_neg (fun z => d _ _ (by omega) z.1), mi_wi, if_neg (fun z => d _ _ (by omega) z.1), mi_wi, if_neg (fun z => d _ _ (by omega) z.1), mi_wi, if_neg (fun z => d _ _ (by omega) z.1), mi_wi, if_neg (fun z => d _ _ (by omega) z.1)]
  have g7 : ∀ j, mi M2 (ad 7) j = if j = oP h then nI k else mi M (ad 7) j := fun j => by
    rw [← hM2, mi_wi, if_neg (fun z => d _ _ (by omega) z.1), mi_wi, if_neg (fun z => d _ _ (by omega) z.1), mi_wi, if_neg (fun z => d _ _ (by omega) z.1), mi_wi, if_neg (fun z => d _ _ (by omega) z.1), mi_wi, if_neg (fun z => d _ _ (by omega) z.1), mi_wi]
    by_cases e : j = oP h
    · rw [if_pos ⟨rfl, e⟩, if_pos e]
    · rw [if_neg (fun z => e z.2), if_neg e]
  have g8 : ∀ j, mi M2 (ad 8) j = if j = oP h then nI w else mi M (ad 8) j := fun j => by
    rw [← hM2, mi_wi, if_neg (fun z => d _ _ (by omega) z.1), mi_wi, if_neg (fun z => d _ _ (by omega) z.1), mi_wi, if_neg (fun z => d _ _ (by omega) z.1), mi_wi, if_neg (fun z => d _ _ (by omega) z.1), mi_wi]
    by_cases e : j = oP h
    · rw [if_pos ⟨rfl, e⟩, if_pos e]
    · rw [if_neg (fun z => e z.2), if_neg e, mi_wi, if_neg (fun z => d _ _ (by omega) z.1)]
  have g9 : ∀ j, mi M2 (ad 9) j = if j = oP h then -1 else mi M (ad 9) j := fun j => by
    rw [← hM2, mi_wi, if_neg (fun z => d _ _ (by omega) z.1), mi_wi, if_neg (fun z => d _ _ (by omega) z.1), mi_wi, if_neg (fun z => d _ _ (by omega) z.1), mi_wi]
    by_cases e : j = oP h
    · rw [if_pos ⟨rfl, e⟩, if_pos e]
    · rw [if_neg (fun z => e z.2), if_neg e, mi_wi, if_neg (fun z => d _ _ (by omega) z.1), mi_wi, if_neg (fun z => d _ _ (by omega) z.1)]
  have g10 : ∀ j, mi M2 (ad 10) j = if j = oP h then 0 else mi M (ad 10) j := fun j => by
    rw [← hM2, mi_wi, if_neg (fun z => d _ _ (by omega) z.1), mi_wi, if_neg (fun z => d _ _ (by omega) z.1), mi_wi]
    by_cases e : j = oP h
    · rw [if_pos ⟨rfl, e⟩, if_pos e]
    · rw [if_neg (fun z => e z.2), if_neg e, mi_wi, if_neg (fun z => d _ _ (by omega) z.1), mi_wi, if_neg (fun z => d _ _ (by omega) z.1), mi_wi, if_neg (fun z => d _ _ (by omega) z.1)]
  have z6 := ho.1.2.2.2.2.2.2.2.2 (oP h) (Nat.le_refl _)
  obtain ⟨⟨r1, r2, r3, r4, r5, r6, r7, r8⟩, l2, l3, l4, l5, l6, l7, l8, l9⟩ := l
  refine ⟨M2, rfl, IB_of (okH_add ho hp hk hw) ⟨⟨?_, fun i hi => ?_, fun i hi => ?_, (f0 2 (by omega) (by omega)).trans r4, (f0 3 (by omega) (by omega)).trans r5, fun i hi => ?_, fun i hi => ?_, fun i hi => (f1 11 (by omega) (by omega) (by omega) (by omega) (by omega) i).trans (r8 i hi)⟩, ?_, fun j hj => absurd hj (Nat.not_lt_zero j), (f0 4 (by omega) (by omega)).trans l4, (f0 5 (by omega) (by omega)).trans l5, (f0 6 (by omega) (by omega)).trans l6, fun i hi => (f1 12 (by omega) (by omega) (by omega) (by omega) (by omega) i).trans (l7 i hi), fun i hi => (f1 13 (by omega) (by omega) (by omega) (by omega) (by omega) i).trans (l8 i hi), fun i hi => (f1 14 (by omega) (by omega) (by omega) (by omega) (by omega) i).trans (l9 i hi)⟩, ⟨fun n hn j => f1 n (by omega) (by omega) (by omega) (by omega) (by omega) j, f0 16 (by omega) (by omega), by rw [← hM2]; rfl, fun j _ => by rw [← hM2]; exact ⟨rfl, rfl⟩⟩, fun j hj => f0 j (by omega) (by omega)⟩
  · rw [← hM2, mi_wi, if_neg (by omega), mi_wi, if_pos ⟨rfl, rfl⟩]; rfl
  · have hi : i < oP h + 1 := hi
    rw [g7]
    show _ = nI (if i = oP h then k else oK h i)
    by_cases e : i = oP h
    · rw [if_pos e, if_pos e]
    · rw [if_neg e, if_neg e]; exact r2 i (by omega)
  · have hi : i < oP h + 1 := hi
    rw [g8]
    show _ = nI (if i = oP h then w else oW h i)
    by_cases e : i = oP h
    · rw [if_pos e, if_pos e]
    · rw [if_neg e, if_neg e]; exact r3 i (by omega)
  · have hi : i < oP h + 1 := hi
    rw [g10]
    show _ = nI (sN (oS h) i)
    by_cases e : i = oP h
    · rw [if_pos e, e, z6.1]; rfl
    · rw [if_neg e]; exact r6 i (by omega)
  · have hi : i < oP h + 1 := hi
    rw [g9]
    show _ = nI (sP (oS h) i) - 1
    by_cases e : i = oP h
    · rw [if_pos e, e, z6.2]; rfl
    · rw [if_neg e]; exact r7 i (by omega)
  · rw [← hM2, mi_wi, if_pos ⟨rfl, rfl⟩]; rfl
theorem ok_one (hI : Inv E x m M) : al_one Inv E x m M := by
  intro a1 a2
  obtain ⟨ad, h, pi, hN, ho, hc, hb, k1, k2, k3, k4, k5⟩ := id hI
  obtain ⟨rfl, rfl⟩ : m = ad 0 ∧ x = ad 50 := ⟨hN.1.symm, hN.2.1.symm⟩
  have r := RO_of ho.1.1 hb
  have hH := hn_of hN (H := 100) (Or.inl rfl)
  have hS := sn_of hN (H := 100) (Or.inl rfl)
  have hT : sT (oS h) < 2 ^ 31 := by have := ho.2.1; omega
  have hp : oP h ≤ 6 := ho.1.1
  have hI' := hN.2.2.1
  have hP : ∀ j, j < 8 → SN E ad (100 + 16 + 4 * j) := fun j hj => (sp_of hN (H := 100) (Or.inl rfl) hj).1
  by_cases g : (0 : Int32) ≤ a1 ∧ a1 ≤ 5
  · by_cases g2 : (1 : Int32) ≤ a2 ∧ a2 ≤ 12
    · obtain ⟨k, hk, e1⟩ := rg (n := 5) (by decide) g
      obtain ⟨w, hw, e2⟩ := rg (n := 12) (by decide) (show (0 : Int32) ≤ a2 ∧ a2 ≤ 12 from ⟨Int32.le_trans (by decide) g2.1, g2.2⟩)
      by_cases h6 : oP h < 6
      · obtain ⟨Ma, ea, ca, oa⟩ := welcome_sp (k := k) (w := w) hI' hH h6 hc
        have cl : Cl ad M Ma := Cl_off oa (by omega)
        obtain ⟨M2, e9, b9, m9, -⟩ := addOne_sp (k := k) (w := w) hN ho h6 (by omega) hw (IB_mu cl.mu hb)
        refine fin hN k1 k2 k3 k4 k5 (okH_add ho h6 (show k < 6 by omega) hw) (r := nI (oP h)) ?_ cl ca ?_ m9 b9
        · unfold f_X8_one
          rw [wi_t g, if_neg I10, wi_t g2, if_neg I10, n_100 hN, hc.1.1, if_pos (show nI (oP h) < (6 : Int32) from nI_lt (b := 6) h6 (by decide)), e1, e2, ea, Option.bind_some, ca.1.1]
          show some (nI (oP h + 1) - 1, Ma) = _
          rw [nI_pred]
        · unfold f_X9_one
          rw [in_t g, if_neg I10, in_t g2, if_neg I10, (cl.mu 0 (by decide) 1).trans r.1, if_neg (show ¬ nI (oP h) = (6 : Int32) from fun z => by have := (nI_eq (b := 6) (by omega) (by decide)).mp z; omega), e1, e2, e9]
          rfl
      · exact fin_full hN ho hc hb k1 k2 k3 k4 k5 (by unfold f_X8_one; rw [wi_t g, if_neg I10, wi_t g2, if_neg I10, n_100 hN, hc.1.1, if_neg (show ¬ nI (oP h) < (6 : Int32) from nI_nlt (b := 6) (by omega) (by omega))]; rfl) (fun M1 u => by unfold f_X9_one; rw [in_t g, if_neg I10, in_t g2, if_neg I10, (u 0 (by decide) 1).trans r.1, if_pos (show nI (oP h) = (6 : Int32) from (nI_eq (b := 6) (by omega) (by decide)).mpr (by omega))]; rfl)
    · exact fin_bad hN ho hc hb k1 k2 k3 k4 k5 (by unfold f_X8_one; rw [wi_t g, if_neg I10, wi_f g2, if_pos I00]; rfl) (fun M1 u => by unfold f_X9_one; rw [in_t g, if_neg I10, in_f g2, if_pos I00]; rfl)
  · exact fin_bad hN ho hc hb k1 k2 k3 k4 k5 (by unfold f_X8_one; rw [wi_f g, if_pos I00]; rfl) (fun M1 u => by unfold f_X9_one; rw [in_f g, if_pos I00]; rfl)
end Al42
