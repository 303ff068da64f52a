/-! rows, the text's ends -/
section Al43
variable {E : Env1} {x m : Nat} {ad : Nat → Nat} {M M1 M2 : Mem} {h h' : Ho} {pi pi' : Nat → Nat} {p H : Nat}
/-- one row more -/
def appF (f : Nat → Int32) (n : Nat) (v : Nat → Int32) : Nat → Int32 := fun k => if n ≤ k then v (k - n) else f k
def v4 (a b c d : Int32) : Nat → Int32 := fun k => if k = 0 then a else if k = 1 then b else if k = 2 then c else d
theorem append_sp (hI : ∀ n n', ad n = ad n' → n = n') {R n w : Nat} {f : Nat → Int32} (hW : WN E ad R) (hn : n < 6) (hw : w = 3 ∨ w = 4) (c : CR ad M R n w f) (a1 a2 a3 a4 : Int32) : ∃ M1, f_X4_append E M (ad R) a1 a2 a3 a4 = some M1 ∧ CR ad M1 R (n + 1) w (appF f (w * n) (v4 a1 a2 a3 a4)) ∧ Off ad M M1 R (R + 2) := by
  have d : ∀ a b, a ≠ b → ¬ ad a = ad b := fun a b h z => h (hI _ _ z)
  obtain ⟨c1, c2⟩ := c
  unfold f_X4_append
  dsimp only [nm]
  have e4 : nI n * (4 : Int32) = nI (n * 4) := pk_mul n 4
  rw [c1, hW, e4, within_p E M (nI_pos' (by omega)) (show nI (n * 4) ≤ (24 : Int32) - 4 from nI_le (a := n * 4) (b := 20) (by omega) (by decide)), if_neg I10, gd_nI (by omega) (by decide), gd_b (k := 1) (c := 1) rfl (by omega) (by decide), gd_b (k := 2) (c := 2) rfl (by omega) (by decide), gd_b (k := 3) (c := 3) rfl (by omega) (by decide), ix_nI (by omega), ix_b (k := 1) (c := 1) rfl (by omega), ix_b (k := 2) (c := 2) rfl (by omega), ix_b (k := 3) (c := 3) rfl (by omega)]
  have m0 : mi (wi (wi (wi (wi M (ad (R + 1)) (n * 4) a1) (ad (R + 1)) (n * 4 + 1) a2) (ad (R + 1)) (n * 4 + 2) a3) (ad (R + 1)) (n * 4 + 3) a4) (ad R) 0 = nI n := by
    rw [mi_wi, if_neg (fun z => d _ _ (by omega) z.1), mi_wi, if_neg (fun z => d _ _ (by omega) z.1), mi_wi, if_neg (fun z => d _ _ (by omega) z.1), mi_wi, if_neg (fun z => d _ _ (by omega) z.1)]
    exact c1
  rw [m0, nI_1]
  refine ⟨_, rfl, ⟨?_, fun r q hr hq => ?_⟩, (Off_wi hI M (by omega)).tr ((Off_wi hI _ (by omega)).tr ((Off_wi hI _ (by omega)).tr ((Off_wi hI _ (by omega)).tr (Off_wi hI _ (by omega)))))⟩
  · rw [mi_wi, if_pos ⟨rfl, rfl⟩]
  · rw [mi_wi, if_neg (fun z => d _ _ (by omega) z.1), mi_wi, mi_wi, mi_wi, mi_wi]
    unfold appF
    by_cases e : r = n
    · subst e
      have rhs : (if w * r ≤ w * r + q then v4 a1 a2 a3 a4 (w * r + q - w * r) else f (w * r + q)) = v4 a1 a2 a3 a4 q := by rw [if_pos (Nat.le_add_right _ _), Nat.add_sub_cancel_left]
      rw [rhs]
      rcases (show q = 0 ∨ q = 1 ∨ q = 2 ∨ q = 3 by omega) with rfl | rfl | rfl | rfl
      · rw [if_neg (by omega), if_neg (by omega), if_neg (by omega), if_pos ⟨rfl, by omega⟩]; rfl
      · rw [if_neg (by omega), if_neg (by omega), if_pos ⟨rfl, by omega⟩]; rfl
      · rw [if_neg (by omega), if_pos ⟨rfl, by omega⟩]; rfl
      · rw [if_pos ⟨rfl, by omega⟩]; rfl
    · have hr2 : r < n := by omega
      have hl : w * r + q < w * n := by
        rcases hw with rfl | rfl <;> omega
      have rhs : (if w * n ≤ w * r + q then v4 a1 a2 a3 a4 (w * r + q - w * n) else f (w * r + q)) = f (w * r + q) := if_neg (by omega)
      rw [rhs, if_neg (by omega), if_neg (by omega), if_neg (by omega), if_neg (by omega)]
      exact c2 r q hr2 hq
def seenS (h : Ho) (a b c : Int32) : Ho := (oP h, oK h, oW h, oS h, oU h, oL h, (oA h + 1, oB h, oC h), appF (oX h) (3 * oA h) (v4 a b c 0), oY h, oZ h)
def noteS (h : Ho) (a b c d : Int32) : Ho := (oP h, oK h, oW h, oS h, oU h, oL h, (oA h, oB h + 1, oC h), oX h, appF (oY h) (4 * oB h) (v4 a b c d), oZ h)
def markS (h : Ho) (a b c d : Int32) : Ho := (oP h, oK h, oW h, oS h, oU h, oL h, (oA h, oB h, oC h + 1), oX h, oY h, appF (oZ h) (4 * oC h) (v4 a b c d))
theorem okH_seen (ho : okH h) (hA : oA h < 6) {a : Int32} {s t : Nat} (hs : s < 8) (ht : t < 2) : okH (seenS h a (nI s) (nI t)) := by
  obtain ⟨h1, h2, h3, h4, h5, h6, h7, h8⟩ := ho
  refine ⟨h1, h2, h3, h4, by show oA h + 1 ≤ 6; omega, h6, h7, fun r hr => ?_⟩
  have hr : r < oA h + 1 := hr
  show ∃ s' t', s' < 8 ∧ t' < 2 ∧ appF (oX h) (3 * oA h) (v4 a (nI s) (nI t) 0) (3 * r + 1) = nI s' ∧ appF (oX h) (3 * oA h) (v4 a (nI s) (nI t) 0) (3 * r + 2) = nI t'
  unfold appF
  by_cases e : r = oA h
  · rw [if_pos (by omega), if_pos (by omega), e, Nat.add_sub_cancel_left, Nat.add_sub_cancel_left]
    exact ⟨s, t, hs, ht, rfl, rfl⟩
  · rw [if_neg (by omega), if_neg (by omega)]
    exact h8 r (by omega)
theorem okH_note (ho : okH h) (hB : oB h < 6) (a b c d : Int32) : okH (noteS h a b c d) := ⟨ho.1, ho.2.1, ho.2.2.1, ho.2.2.2.1, ho.2.2.2.2.1, by show oB h + 1 ≤ 6; omega, ho.2.2.2.2.2.2⟩
theorem okH_mark (ho : okH h) (hC : oC h < 6) (a b c d : Int32) : okH (markS h a b c d) := ⟨ho.1, ho.2.1, ho.2.2.1, ho.2.2.2.1, ho.2.2.2.2.1, ho.2.2.2.2.2.1, by show oC h + 1 ≤ 6; omega, ho.2.2.2.2.2.2.2⟩
/-- what is kept of a house when rows change -/
theorem CO_rows (hd : ∀ n, n < H + 6 ∨ H + 12 ≤ n → ∀ k, mi M1 (ad n) k = mi M (ad n) k) (c : CO ad M H h) {t : Nat × (Nat → Sd) × (Nat × Nat × Nat) × (Nat → Int32) × (Nat → Int32) × (Nat → Int32)} : CO ad M1 H (oP h, oK h, oW h, oS h, t) := ⟨(hd H (by omega) 0).trans c.1, fun i hi => (hd (H + 1) (by omega) i).trans (c.2.1 i hi), fun i hi => (hd (H + 2) (by omega) i).trans (c.2.2.1 i hi), CS_same (fun n h1 h2 k => hd n (by omega) k) c.2.2.2⟩
theorem row9 (hI : ∀ n n', ad n = ad n' → n = n') {T n w K : Nat} {f : Nat → Int32} {v : Nat → Int32} (hf : ∀ k, k < w * n → mi M (ad T) k = f k) (h2 : ∀ k, k < w * n → mi M2 (ad T) k = mi M (ad T) k) (h3 : ∀ q, q < w → mi M2 (ad T) (w * n + q) = v q) (hK : K = w * (n + 1)) : ∀ k, k < K → mi M2 (ad T) k = appF f (w * n) v k := by
  intro k hk
  unfold appF
  by_cases e : w * n ≤ k
  · rw [if_pos e]
    have := h3 (k - w * n) (by rw [hK, Nat.mul_succ] at hk; omega)
    rwa [show w * n + (k - w * n) = k by omega] at this
  · rw [if_neg e, h2 k (by omega)]
    exact hf k (by omega)
theorem ok_seen (hI : Inv E x m M) : al_seen Inv E x m M := by
  intro a1 a2 a3
  obtain ⟨ad, h, pi, hN, ho, hc, hb, k1, k2, k3, k4, k5⟩ := id hI
  obtain ⟨rfl, rfl⟩ : m = ad 0 ∧ x = ad 50 := ⟨hN.1.symm, hN.2.1.symm⟩
  have r := RO_of ho.1.1 hb
  have hH := hn_of hN (H := 100) (Or.inl rfl)
  have hS := sn_of hN (H := 100) (Or.inl rfl)
  have hT : sT (oS h) < 2 ^ 31 := by have := ho.2.1; omega
  have hp : oP h ≤ 6 := ho.1.1
  have hI' := hN.2.2.1
  have hP : ∀ j, j < 8 → SN E ad (100 + 16 + 4 * j) := fun j hj => (sp_of hN (H := 100) (Or.inl rfl) hj).1
  by_cases g : inP (oP h) a1
  · by_cases gs : (0 : Int32) ≤ a2 ∧ a2 ≤ 7
    · by_cases g2 : (0 : Int32) ≤ a3 ∧ a3 ≤ 1
      · have l := LV_of ho hb
        by_cases h6 : oA h < 6
        · obtain ⟨s, hs, e2⟩ := rg (n := 7) (by decide) gs
          obtain ⟨t, ht, e3⟩ := rg (n := 1) (by decide) g2
          have d : ∀ a b, a ≠ b → ¬ ad a = ad b := fun a b h z => h (hI' _ _ z)
          obtain ⟨Ma, ea, ca, oa⟩ := append_sp hI' (wn_of hN (H := 100) (Or.inl rfl)).1 h6 (Or.inl rfl) hc.2.2.1 a1 a2 a3 0
          have cl : Cl ad M Ma := Cl_off oa (by omega)
          have hoc : CH ad Ma 100 (seenS h a1 a2 a3) pi := ⟨CO_rows (fun n hn k => oa.1 n (by omega) k) hc.1, (oa.1 100 (by omega) 5).trans hc.2.1, ca, CR_sm (fun j _ _ k => oa.1 j (by omega) k) hc.2.2.2.1, CR_sm (fun j _ _ k => oa.1 j (by omega) k) hc.2.2.2.2.1, PM_sm (fun k => oa.mr _ _) hc.2.2.2.2.2.1, fun j hj => CS_same (fun n h1 h2 k => oa.1 n (by omega) k) (hc.2.2.2.2.2.2 j hj)⟩
          have ok' : okH (seenS h a1 a2 a3) := by rw [e2, e3]; exact okH_seen ho h6 (by omega) (by omega)
          have la := LV_of ho (IB_mu cl.mu hb)
          have u4 : mi Ma (ad 0) 4 = nI (oA h) := la.2.2.2.1
          have eM : (3 : Int32) * nI (oA h) = nI (3 * oA h) := pk_mul 3 (oA h)
          refine fin hN k1 k2 k3 k4 k5 ok' (r := nI (oA h + 1)) (M1 := Ma) (M2 := wi (wi (wi (wi Ma (ad 12) (3 * oA h) a1) (ad 12) (3 * oA h + 1) a2) (ad 12) (3 * oA h + 2) a3) (ad 0) 4 (nI (oA h + 1))) ?_ cl hoc ?_ ((Mo_wi hI' (by omega)).tr ((Mo_wi hI' (by omega)).tr ((Mo_wi hI' (by omega)).tr (Mo_wi hI' (by omega))))) (IB_of ok' ?_)
          · unfold f_X8_seen f_X8_add
            rw [n_100 hN, hasP_t hp hc.1.1 g, if_neg I10, st8_t gs, if_neg I10, wi_t g2, if_neg I10, hH.2.2.2.2.1, hc.2.2.1.1, if_pos (show nI (oA h) < (6 : Int32) from nI_lt (b := 6) h6 (by decide)), ea, Option.bind_some, ca.1]
            rfl
          · unfold f_X9_seen
            dsimp only [nm]
            rw [one_t la.1.1 g, if_neg I10, st9_t gs, if_neg I10, in_t g2, if_neg I10, n_12 hN, u4, if_neg (show ¬ nI (oA h) = (6 : Int32) from fun z => by have := (nI_eq (b := 6) (by omega) (by decide)).mp z; omega), eM, gd_nI (by omega) (by decide), ix_nI (by omega)]
            have z1 : mi (wi Ma (ad 12) (3 * oA h) a1) (ad 0) 4 = nI (oA h) := by rw [mi_wi, if_neg (fun z => d _ _ (by omega) z.1)]; exact u4
            rw [z1, eM, gd_b (k := 1) (c := 1) rfl (by omega) (by decide), ix_b (k := 1) (c := 1) rfl (by omega)]
            have z2 : mi (wi (wi Ma (ad 12) (3 * oA h) a1) (ad 12) (3 * oA h + 1) a2) (ad 0) 4 = nI (oA h) := by rw [mi_wi, if_neg (fun z => d _ _ (by omega) z.1)]; exact z1
            rw [z2, eM, gd_b (k := 2) (c := 2) rfl (by omega) (by decide), ix_b (k := 2) (c := 2) rfl (by omega)]
            have z3 : mi (wi (wi (wi Ma (ad 12) (3 * oA h) a1) (ad 12) (3 * oA h + 1) a2) (ad 12) (3 * oA h + 2) a3) (ad 0) 4 = nI (oA h) := by rw [mi_wi, if_neg (fun z => d _ _ (by omega) z.1)]; exact z2
            rw [z3, nI_1, mi_wi, if_pos ⟨rfl, rfl⟩]
          · obtain ⟨⟨r1, r2, r3, r4, r5, r6, r7, r8⟩, l2, l3, l4, l5, l6, l7, l8, l9⟩ := la
            have f1 : ∀ n j, n ≠ 12 → ¬ (n = 0 ∧ j = 4) → mi (wi (wi (wi (wi Ma (ad 12) (3 * oA h) a1) (ad 12) (3 * oA h + 1) a2) (ad 12) (3 * oA h + 2) a3) (ad 0) 4 (nI (oA h + 1))) (ad n) j = mi Ma (ad n) j := fun n j hn h0 => by
              rw [mi_wi, if_neg (fun z => h0 ⟨hI' _ _ z.1, z.2⟩), mi_wi, if_neg (fun z => d _ _ hn z.1), mi_wi, if_neg (fun z => d _ _ hn z.1), mi_wi, if_neg (fun z => d _ _ hn z.1)]
            refine ⟨⟨(f1 0 1 (by omega) (by omega)).trans r1, fun i hi => (f1 7 i (by omega) (by omega)).trans (r2 i hi), fun i hi => (f1 8 i (by omega) (by omega)).trans (r3 i hi), (f1 0 2 (by omega) (by omega)).trans r4, (f1 0 3 (by omega) (by omega)).trans r5, fun i hi => (f1 10 i (by omega) (by omega)).trans (r6 i hi), fun i hi => (f1 9 i (by omega) (by omega)).trans (r7 i hi), fun i hi => (f1 11 i (by omega) (by omega)).trans (r8 i hi)⟩, (f1 0 21 (by omega) (by omega)).trans l2, fun j hj => BS_sh hp (fun i hi => f1 20 _ (by omega) (by omega)) (l3 j hj), ?_, (f1 0 5 (by omega) (by omega)).trans l5, (f1 0 6 (by omega) (by omega)).trans l6, row9 (M := Ma) (w := 3) (n := oA h) hI' l7 (fun k hk => ?_) (fun q hq => ?_) rfl, fun i hi => (f1 13 i (by omega) (by omega)).trans (l8 i hi), fun i hi => (f1 14 i (by omega) (by omega)).trans (l9 i hi)⟩
            · rw [mi_wi, if_pos ⟨rfl, rfl⟩]; rfl
            · rw [mi_wi, if_neg (fun z => d _ _ (by omega) z.1), mi_wi, if_neg (by omega), mi_wi, if_neg (by omega), mi_wi, if_neg (by omega)]
            · rw [mi_wi, if_neg (fun z => d _ _ (by omega) z.1), mi_wi, mi_wi, mi_wi]
              rcases (show q = 0 ∨ q = 1 ∨ q = 2 by omega) with rfl | rfl | rfl
              · rw [if_neg (by omega), if_neg (by omega), if_pos ⟨rfl, by omega⟩]; rfl
              · rw [if_neg (by omega), if_pos ⟨rfl, by omega⟩]; rfl
              · rw [if_pos ⟨rfl, by omega⟩]; rfl
        · have hA := ho.2.2.2.2.1
          exact fin_full hN ho hc hb k1 k2 k3 k4 k5 (by unfold f_X8_seen f_X8_add; rw [n_100 hN, hasP_t hp hc.1.1 g, if_neg I10, st8_t gs, if_neg I10, wi_t g2, if_neg I10, hH.2.2.2.2.1, hc.2.2.1.1, if_neg (show ¬ nI (oA h) < (6 : Int32) from nI_nlt (b := 6) (by omega) (by omega))]; rfl) (fun M1 u => by unfold f_X9_seen; rw [one_t ((u 0 (by decide) 1).trans r.1) g, if_neg I10, st9_t gs, if_neg I10, in_t g2, if_neg I10, (u 0 (by decide) 4).trans l.2.2.2.1, if_pos (show nI (oA h) = (6 : Int32) from (nI_eq (b := 6) (by omega) (by decide)).mpr (by omega))]; rfl)
      · exact fin_bad hN ho hc hb k1 k2 k3 k4 k5 (by unfold f_X8_seen; rw [n_100 hN, hasP_t hp hc.1.1 g, if_neg I10, st8_t gs, if_neg I10, wi_f g2, if_pos I00]; rfl) (fun M1 u => by unfold f_X9_seen; rw [one_t ((u 0 (by decide) 1).trans r.1) g, if_neg I10, st9_t gs, if_neg I10, in_f g2, if_pos I00]; rfl)
    · exact fin_bad hN ho hc hb k1 k2 k3 k4 k5 (by unfold f_X8_seen; rw [n_100 hN, hasP_t hp hc.1.1 g, if_neg I10, st8_f gs, if_pos I00]; rfl) (fun M1 u => by unfold f_X9_seen; rw [one_t ((u 0 (by decide) 1).trans r.1) g, if_neg I10, st9_f gs, if_pos I00]; rfl)
  · exact fin_bad hN ho hc hb k1 k2 k3 k4 k5 (by unfold f_X8_seen; rw [n_100 hN, hasP_f hc.1.1 g, if_pos I00]; rfl) (fun M1 u => by unfold f_X9_seen; rw [one_f ((u 0 (by decide) 1).trans r.1) g, if_pos I00]; rfl)
theorem ok_note (hI : Inv E x m M) : al_note Inv E x m M := by
  intro a1 a2 a3 a4
  obtain ⟨ad, h, pi, hN, ho, hc, hb, k1, k2, k3, k4, k5⟩ := id hI
  obtain ⟨rfl, rfl⟩ : m = ad 0 ∧ x = ad 50 := ⟨hN.1.symm, hN.2.1.symm⟩
  have r := RO_of ho.1.1 hb
  have hH := hn_of hN (H := 100) (Or.inl rfl)
  have hS := sn_of hN (H := 100) (Or.inl rfl)
  have hT : sT (oS h) < 2 ^ 31 := by have := ho.2.1; omega
  have hp : oP h ≤ 6 := ho.1.1
  have hI' := hN.2.2.1
  have hP : ∀ j, j < 8 → SN E ad (100 + 16 + 4 * j) := fun j hj => (sp_of hN (H := 100) (Or.inl rfl) hj).1
  by_cases gs : (0 : Int32) ≤ a1 ∧ a1 ≤ 7
  · by_cases g1 : (1 : Int32) ≤ a2 ∧ a2 ≤ 12
    · by_cases g2 : (0 : Int32) ≤ a3 ∧ a3 ≤ 23
      · by_cases g3 : ¬ ((0 : Int32) ≤ a4 ∧ a4 ≤ 9)
        · exact fin_bad hN ho hc hb k1 k2 k3 k4 k5 (by unfold f_X8_note; rw [st8_t gs, if_neg I10, wi_t g1, if_neg I10, wi_t g2, if_neg I10, wi_f g3, if_pos I00]; rfl) (fun M1 u => by unfold f_X9_note; rw [st9_t gs, if_neg I10, in_t g1, if_neg I10, in_t g2, if_neg I10, in_f g3, if_pos I00]; rfl)
        have g3 := Decidable.not_not.mp g3
        have l := LV_of ho hb
        by_cases h6 : oB h < 6
        · have d : ∀ a b, a ≠ b → ¬ ad a = ad b := fun a b h z => h (hI' _ _ z)
          obtain ⟨Ma, ea, ca, oa⟩ := append_sp hI' (wn_of hN (H := 100) (Or.inl rfl)).2.1 h6 (Or.inr rfl) hc.2.2.2.1 a1 a2 a3 a4
          have cl : Cl ad M Ma := Cl_off oa (by omega)
          have hoc : CH ad Ma 100 (noteS h a1 a2 a3 a4) pi := ⟨CO_rows (fun n hn k => oa.1 n (by omega) k) hc.1, (oa.1 100 (by omega) 5).trans hc.2.1, CR_sm (fun j _ _ k => oa.1 j (by omega) k) hc.2.2.1, ca, CR_sm (fun j _ _ k => oa.1 j (by omega) k) hc.2.2.2.2.1, PM_sm (fun k => oa.mr _ _) hc.2.2.2.2.2.1, fun j hj => CS_same (fun n h1 h2 k => oa.1 n (by omega) k) (hc.2.2.2.2.2.2 j hj)⟩
          have ok' : okH (noteS h a1 a2 a3 a4) := okH_note ho h6 _ _ _ _
          have la := LV_of ho (IB_mu cl.mu hb)
          have u4 : mi Ma (ad 0) 5 = nI (oB h) := la.2.2.2.2.1
          have eM : (4 : Int32) * nI (oB h) = nI (4 * oB h) := pk_mul 4 (oB h)
          refine fin hN k1 k2 k3 k4 k5 ok' (r := nI (oB h + 1)) (M1 := Ma) (M2 := wi (wi (wi (wi (wi Ma (ad 13) (4 * oB h) a1) (ad 13) (4 * oB h + 1) a2) (ad 13) (4 * oB h + 2) a3) (ad 13) (4 * oB h + 3) a4) (ad 0) 5 (nI (oB h + 1))) ?_ cl hoc ?_ ((Mo_wi hI' (by omega)).tr ((Mo_wi hI' (by omega)).tr ((Mo_wi hI' (by omega)).tr ((Mo_wi hI' (by omega)).tr (Mo_wi hI' (by omega)))))) (IB_of ok' ?_)
          · unfold f_X8_note f_X8_add
            rw [st8_t gs, if_neg I10, wi_t g1, if_neg I10, wi_t g2, if_neg I10, wi_t g3, if_neg I10, n_100 hN, hH.2.2.2.2.2.1, hc.2.2.2.1.1, if_pos (show nI (oB h) < (6 : Int32) from nI_lt (b := 6) h6 (by decide)), ea, Option.bind_some, ca.1]
            rfl
          · unfold f_X9_note
            dsimp only [nm]
            rw [st9_t gs, if_neg I10, in_t g1, if_neg I10, in_t g2, if_neg I10, in_t g3, if_neg I10, n_13 hN, u4, if_neg (show ¬ nI (oB h) = (6 : Int32) from fun z => by have := (nI_eq (b := 6) (by omega) (by decide)).mp z; omega), eM, gd_nI (by omega) (by decide), ix_nI (by omega)]
            have z1 : mi (wi Ma (ad 13) (4 * oB h) a1) (ad 0) 5 = nI (oB h) := by rw [mi_wi, if_neg (fun z => d _ _ (by omega) z.1)]; exact u4
            rw [z1, eM, gd_b (k := 1) (c := 1) rfl (by omega) (by decide), ix_b (k := 1) (c := 1) rfl (by omega)]
            have z2 : mi (wi (wi Ma (ad 13) (4 * oB h) a1) (ad 13) (4 * oB h + 1) a2) (ad 0) 5 = nI (oB h) := by rw [mi_wi, if_neg (fun z => d _ _ (by omega) z.1)]; exact z1
            rw [z2, eM, gd_b (k := 2) (c := 2) rfl (by omega) (by decide), ix_b (k := 2) (c := 2) rfl (by omega)]
            have z3 : mi (wi (wi (wi Ma (ad 13) (4 * oB h) a1) (ad 13) (4 * oB h + 1) a2) (ad 13) (4 * oB h + 2) a3) (ad 0) 5 = nI (oB h) := by rw [mi_wi, if_neg (fun z => d _ _ (by omega) z.1)]; exact z2
            rw [z3, eM, gd_b (k := 3) (c := 3) rfl (by omega) (by decide), ix_b (k := 3) (c := 3) rfl (by omega)]
            have z4 : mi (wi (wi (wi (wi Ma (ad 13) (4 * oB h) a1) (ad 13) (4 * oB h + 1) a2) (ad 13) (4 * oB h + 2) a3) (ad 13) (4 * oB h + 3) a4) (ad 0) 5 = nI (oB h) := by rw [mi_wi, if_neg (fun z => d _ _ (by omega) z.1)]; exact z3
            rw [z4, nI_1, mi_wi, if_pos ⟨rfl, rfl⟩]
          · obtain ⟨⟨r1, r2, r3, r4, r5, r6, r7, r8⟩, l2, l3, l4, l5, l6, l7, l8, l9⟩ := la
            have f1 : ∀ n j, n ≠ 13 → ¬ (n = 0 ∧ j = 5) → mi (wi (wi (wi (wi (wi Ma (ad 13) (4 * oB h) a1) (ad 13) (4 * oB h + 1) a2) (ad 13) (4 * oB h + 2) a3) (ad 13) (4 * oB h + 3) a4) (ad 0) 5 (nI (oB h + 1))) (ad n) j = mi Ma (ad n) j := fun n j hn h0 => by
              rw [mi_wi, if_neg (fun z => h0 ⟨hI' _ _ z.1, z.2⟩), mi_wi, if_neg (fun z => d _ _ hn z.1), mi_wi, if_neg (fun z => d _ _ hn z.1), mi_wi, if_neg (fun z => d _ _ hn z.1), mi_wi, if_neg (fun z => d _ _ hn z.1)]
            have hsz : mi (wi (wi (wi (wi (wi Ma (ad 13) (4 * oB h) a1) (ad 13) (4 * oB h + 1) a2) (ad 13) (4 * oB h + 2) a3) (ad 13) (4 * oB h + 3) a4) (ad 0) 5 (nI (oB h + 1))) (ad 0) 5 = nI (oB h + 1) := by rw [mi_wi, if_pos ⟨rfl, rfl⟩]
            have hrw : ∀ k, k < 4 * (oB h + 1) → mi (wi (wi (wi (wi (wi Ma (ad 13) (4 * oB h) a1) (ad 13) (4 * oB h + 1) a2) (ad 13) (4 * oB h + 2) a3) (ad 13) (4 * oB h + 3) a4) (ad 0) 5 (nI (oB h + 1))) (ad 13) k = appF (oY h) (4 * oB h) (v4 a1 a2 a3 a4) k := row9 (M := Ma) (w := 4) (n := oB h) hI' l8 (fun k hk => by rw [mi_wi, if_neg (fun z => d _ _ (by omega) z.1), mi_wi, if_neg (by omega), mi_wi, if_neg (by omega), mi_wi, if_neg (by omega), mi_wi, if_neg (by omega)]) (fun q hq => by
              rw [mi_wi, if_neg (fun z => d _ _ (by omega) z.1), mi_wi, mi_wi, mi_wi, mi_wi]
              rcases (show q = 0 ∨ q = 1 ∨ q = 2 ∨ q = 3 by omega) with rfl | rfl | rfl | rfl
              · rw [if_neg (by omega), if_neg (by omega), if_neg (by omega), if_pos ⟨rfl, by omega⟩]; rfl
              · rw [if_neg (by omega), if_neg (by omega), if_pos ⟨rfl, by omega⟩]; rfl
              · rw [if_neg (by omega), if_pos ⟨rfl, by omega⟩]; rfl
              · rw [if_pos ⟨rfl, by omega⟩]; rfl) rfl
            exact ⟨⟨(f1 0 1 (by omega) (by omega)).trans r1, fun i hi => (f1 7 i (by omega) (by omega)).trans (r2 i hi), fun i hi => (f1 8 i (by omega) (by omega)).trans (r3 i hi), (f1 0 2 (by omega) (by omega)).trans r4, (f1 0 3 (by omega) (by omega)).trans r5, fun i hi => (f1 10 i (by omega) (by omega)).trans (r6 i hi), fun i hi => (f1 9 i (by omega) (by omega)).trans (r7 i hi), fun i hi => (f1 11 i (by omega) (by omega)).trans (r8 i hi)⟩, (f1 0 21 (by omega) (by omega)).trans l2, fun j hj => BS_sh hp (fun i hi => f1 20 _ (by omega) (by omega)) (l3 j hj), (f1 0 4 (by omega) (by omega)).trans l4, hsz, (f1 0 6 (by omega) (by omega)).trans l6, fun i hi => (f1 12 i (by omega) (by omega)).trans (l7 i hi), hrw, fun i hi => (f1 14 i (by omega) (by omega)).trans (l9 i hi)⟩
        · have hA := ho.2.2.2.2.2.1
          exact fin_full hN ho hc hb k1 k2 k3 k4 k5 (by unfold f_X8_note f_X8_add; rw [st8_t gs, if_neg I10, wi_t g1, if_neg I10, wi_t g2, if_neg I10, wi_t g3, if_neg I10, n_100 hN, hH.2.2.2.2.2.1, hc.2.2.2.1.1, if_neg (show ¬ nI (oB h) < (6 : Int32) from nI_nlt (b := 6) (by omega) (by omega))]; rfl) (fun M1 u => by unfold f_X9_note; rw [st9_t gs, if_neg I10, in_t g1, if_neg I10, in_t g2, if_neg I10, in_t g3, if_neg I10, (u 0 (by decide) 5).trans l.2.2.2.2.1, if_pos (show nI (oB h) = (6 : Int32) from (nI_eq (b := 6) (by omega) (by decide)).mpr (by omega))]; rfl)
      · exact fin_bad hN ho hc hb k1 k2 k3 k4 k5 (by unfold f_X8_note; rw [st8_t gs, if_neg I10, wi_t g1, if_neg I10, wi_f g2, if_pos I00]; rfl) (fun M1 u => by unfold f_X9_note; rw [st9_t gs, if_neg I10, in_t g1, if_neg I10, in_f g2, if_pos I00]; rfl)
    · exact fin_bad hN ho hc hb k1 k2 k3 k4 k5 (by unfold f_X8_note; rw [st8_t gs, if_neg I10, wi_f g1, if_pos I00]; rfl) (fun M1 u => by unfold f_X9_note; rw [st9_t gs, if_neg I10, in_f g1, if_pos I00]; rfl)
  · exact fin_bad hN ho hc hb k1 k2 k3 k4 k5 (by unfold f_X8_note; rw [st8_f gs, if_pos I00]; rfl) (fun M1 u => by unfold f_X9_note; rw [st9_f gs, if_pos I00]; rfl)
theorem ok_mark (hI : Inv E x m M) : al_mark Inv E x m M := by
  intro a1 a2 a3 a4
  obtain ⟨ad, h, pi, hN, ho, hc, hb, k1, k2, k3, k4, k5⟩ := id hI
  obtain ⟨rfl, rfl⟩ : m = ad 0 ∧ x = ad 50 := ⟨hN.1.symm, hN.2.1.symm⟩
  have r := RO_of ho.1.1 hb
  have hH := hn_of hN (H := 100) (Or.inl rfl)
  have hS := sn_of hN (H := 100) (Or.inl rfl)
  have hT : sT (oS h) < 2 ^ 31 := by have := ho.2.1; omega
  have hp : oP h ≤ 6 := ho.1.1
  have hI' := hN.2.2.1
  have hP : ∀ j, j < 8 → SN E ad (100 + 16 + 4 * j) := fun j hj => (sp_of hN (H := 100) (Or.inl rfl) hj).1
  by_cases g : inP (oP h) a1
  · by_cases g1 : (-1 : Int32) ≤ a2 ∧ a2 ≤ 8
    · by_cases g2 : (0 : Int32) ≤ a3 ∧ a3 ≤ 23
      · by_cases g3 : ¬ ((0 : Int32) ≤ a4 ∧ a4 ≤ 9)
        · exact fin_bad hN ho hc hb k1 k2 k3 k4 k5 (by unfold f_X8_mark; rw [n_100 hN, hasP_t hp hc.1.1 g, if_neg I10, wi_t g1, if_neg I10, wi_t g2, if_neg I10, wi_f g3, if_pos I00]; rfl) (fun M1 u => by unfold f_X9_mark; rw [one_t ((u 0 (by decide) 1).trans r.1) g, if_neg I10, in_t g1, if_neg I10, in_t g2, if_neg I10, in_f g3, if_pos I00]; rfl)
        have g3 := Decidable.not_not.mp g3
        have l := LV_of ho hb
        by_cases h6 : oC h < 6
        · have d : ∀ a b, a ≠ b → ¬ ad a = ad b := fun a b h z => h (hI' _ _ z)
          obtain ⟨Ma, ea, ca, oa⟩ := append_sp hI' (wn_of hN (H := 100) (Or.inl rfl)).2.2 h6 (Or.inr rfl) hc.2.2.2.2.1 a1 a2 a3 a4
          have cl : Cl ad M Ma := Cl_off oa (by omega)
          have hoc : CH ad Ma 100 (markS h a1 a2 a3 a4) pi := ⟨CO_rows (fun n hn k => oa.1 n (by omega) k) hc.1, (oa.1 100 (by omega) 5).trans hc.2.1, CR_sm (fun j _ _ k => oa.1 j (by omega) k) hc.2.2.1, CR_sm (fun j _ _ k => oa.1 j (by omega) k) hc.2.2.2.1, ca, PM_sm (fun k => oa.mr _ _) hc.2.2.2.2.2.1, fun j hj => CS_same (fun n h1 h2 k => oa.1 n (by omega) k) (hc.2.2.2.2.2.2 j hj)⟩
          have ok' : okH (markS h a1 a2 a3 a4) := okH_mark ho h6 _ _ _ _
          have la := LV_of ho (IB_mu cl.mu hb)
          have u4 : mi Ma (ad 0) 6 = nI (oC h) := la.2.2.2.2.2.1
          have eM : (4 : Int32) * nI (oC h) = nI (4 * oC h) := pk_mul 4 (oC h)
          refine fin hN k1 k2 k3 k4 k5 ok' (r := nI (oC h + 1)) (M1 := Ma) (M2 := wi (wi (wi (wi (wi Ma (ad 14) (4 * oC h) a1) (ad 14) (4 * oC h + 1) a2) (ad 14) (4 * oC h + 2) a3) (ad 14) (4 * oC h + 3) a4) (ad 0) 6 (nI (oC h + 1))) ?_ cl hoc ?_ ((Mo_wi hI' (by omega)).tr ((Mo_wi hI' (by omega)).tr ((Mo_wi hI' (by omega)).tr ((Mo_wi hI' (by omega)).tr (Mo_wi hI' (by omega)))))) (IB_of ok' ?_)
          · unfold f_X8_mark f_X8_add
            rw [n_100 hN, hasP_t hp hc.1.1 g, if_neg I10, wi_t g1, if_neg I10, wi_t g2, if_neg I10, wi_t g3, if_neg I10, hH.2.2.2.2.2.2.1, hc.2.2.2.2.1.1, if_pos (show nI (oC h) < (6 : Int32) from nI_lt (b := 6) h6 (by decide)), ea, Option.bind_some, ca.1]
            rfl
          · unfold f_X9_mark
            dsimp only [nm]
            rw [one_t la.1.1 g, if_neg I10, in_t g1, if_neg I10, in_t g2, if_neg I10, in_t g3, if_neg I10, n_14 hN, u4, if_neg (show ¬ nI (oC h) = (6 : Int32) from fun z => by have := (nI_eq (b := 6) (by omega) (by decide)).mp z; omega), eM, gd_nI (by omega) (by decide), ix_nI (by omega)]
            have z1 : mi (wi Ma (ad 14) (4 * oC h) a1) (ad 0) 6 = nI (oC h) := by rw [mi_wi, if_neg (fun z => d _ _ (by omega) z.1)]; exact u4
            rw [z1, eM, gd_b (k := 1) (c := 1) rfl (by omega) (by decide), ix_b (k := 1) (c := 1) rfl (by omega)]
            have z2 : mi (wi (wi Ma (ad 14) (4 * oC h) a1) (ad 14) (4 * oC h + 1) a2) (ad 0) 6 = nI (oC h) := by rw [mi_wi, if_neg (fun z => d _ _ (by omega) z.1)]; exact z1
            rw [z2, eM, gd_b (k := 2) (c := 2) rfl (by omega) (by decide), ix_b (k := 2) (c := 2) rfl (by omega)]
            have z3 : mi (wi (wi (wi Ma (ad 14) (4 * oC h) a1) (ad 14) (4 * oC h + 1) a2) (ad 14) (4 * oC h + 2) a3) (ad 0) 6 = nI (oC h) := by rw [mi_wi, if_neg (fun z => d _ _ (by omega) z.1)]; exact z2
            rw [z3, eM, gd_b (k := 3) (c := 3) rfl (by omega) (by decide), ix_b (k := 3) (c := 3) rfl (by omega)]
            have z4 : mi (wi (wi (wi (wi Ma (ad 14) (4 * oC h) a1) (ad 14) (4 * oC h + 1) a2) (ad 14) (4 * oC h + 2) a3) (ad 14) (4 * oC h + 3) a4) (ad 0) 6 = nI (oC h) := by rw [mi_wi, if_neg (fun z => d _ _ (by omega) z.1)]; exact z3
            rw [z4, nI_1, mi_wi, if_pos ⟨rfl, rfl⟩]
          · obtain ⟨⟨r1, r2, r3, r4, r5, r6, r7, r8⟩, l2, l3, l4, l5, l6, l7, l8, l9⟩ := la
            have f1 : ∀ n j, n ≠ 14 → ¬ (n = 0 ∧ j = 6) → mi (wi (wi (wi (wi (wi Ma (ad 14) (4 * oC h) a1) (ad 14) (4 * oC h + 1) a2) (ad 14) (4 * oC h + 2) a3) (ad 14) (4 * oC h + 3) a4) (ad 0) 6 (nI (oC h + 1))) (ad n) j = mi Ma (ad n) j := fun n j hn h0 => by
              rw [mi_wi, if_neg (fun z => h0 ⟨hI' _ _ z.1, z.2⟩), mi_wi, if_neg (fun z => d _ _ hn z.1), mi_wi, if_neg (fun z => d _ _ hn z.1), mi_wi, if_neg (fun z => d _ _ hn z.1), mi_wi, if_neg (fun z => d _ _ hn z.1)]
            have hsz : mi (wi (wi (wi (wi (wi Ma (ad 14) (4 * oC h) a1) (ad 14) (4 * oC h + 1) a2) (ad 14) (4 * oC h + 2) a3) (ad 14) (4 * oC h + 3) a4) (ad 0) 6 (nI (oC h + 1))) (ad 0) 6 = nI (oC h + 1) := by rw [mi_wi, if_pos ⟨rfl, rfl⟩]
            have hrw : ∀ k, k < 4 * (oC h + 1) → mi (wi (wi (wi (wi (wi Ma (ad 14) (4 * oC h) a1) (ad 14) (4 * oC h + 1) a2) (ad 14) (4 * oC h + 2) a3) (ad 14) (4 * oC h + 3) a4) (ad 0) 6 (nI (oC h + 1))) (ad 14) k = appF (oZ h) (4 * oC h) (v4 a1 a2 a3 a4) k := row9 (M := Ma) (w := 4) (n := oC h) hI' l9 (fun k hk => by rw [mi_wi, if_neg (fun z => d _ _ (by omega) z.1), mi_wi, if_neg (by omega), mi_wi, if_neg (by omega), mi_wi, if_neg (by omega), mi_wi, if_neg (by omega)]) (fun q hq => by
              rw [mi_wi, if_neg (fun z => d _ _ (by omega) z.1), mi_wi, mi_wi, mi_wi, mi_wi]
              rcases (show q = 0 ∨ q = 1 ∨ q = 2 ∨ q = 3 by omega) with rfl | rfl | rfl | rfl
              · rw [if_neg (by omega), if_neg (by omega), if_neg (by omega), if_pos ⟨rfl, by omega⟩]; rfl
              · rw [if_neg (by omega), if_neg (by omega), if_pos ⟨rfl, by omega⟩]; rfl
              · rw [if_neg (by omega), if_pos ⟨rfl, by omega⟩]; rfl
              · rw [if_pos ⟨rfl, by omega⟩]; rfl) rfl
            exact ⟨⟨(f1 0 1 (by omega) (by omega)).trans r1, fun i hi => (f1 7 i (by omega) (by omega)).trans (r2 i hi), fun i hi => (f1 8 i (by omega) (by omega)).trans (r3 i hi), (f1 0 2 (by omega) (by omega)).trans r4, (f1 0 3 (by omega) (by omega)).trans r5, fun i hi => (f1 10 i (by omega) (by omega)).trans (r6 i hi), fun i hi => (f1 9 i (by omega) (by omega)).trans (r7 i hi), fun i hi => (f1 11 i (by omega) (by omega)).trans (r8 i hi)⟩, (f1 0 21 (by omega) (by omega)).trans l2, fun j hj => BS_sh hp (fun i hi => f1 20 _ (by omega) (by omega)) (l3 j hj), (f1 0 4 (by omega) (by omega)).trans l4, (f1 0 5 (by omega) (by omega)).trans l5, hsz, fun i hi => (f1 12 i (by omega) (by omega)).trans (l7 i hi), fun i hi => (f1 13 i (by omega) (by omega)).trans (l8 i hi), hrw⟩
        · have hA := ho.2.2.2.2.2.2.1
          exact fin_full hN ho hc hb k1 k2 k3 k4 k5 (by unfold f_X8_mark f_X8_add; rw [n_100 hN, hasP_t hp hc.1.1 g, if_neg I10, wi_t g1, if_neg I10, wi_t g2, if_neg I10, wi_t g3, if_neg I10, hH.2.2.2.2.2.2.1, hc.2.2.2.2.1.1, if_neg (show ¬ nI (oC h) < (6 : Int32) from nI_nlt (b := 6) (by omega) (by omega))]; rfl) (fun M1 u => by unfold f_X9_mark; rw [one_t ((u 0 (by decide) 1).trans r.1) g, if_neg I10, in_t g1, if_neg I10, in_t g2, if_neg I10, in_t g3, if_neg I10, (u 0 (by decide) 6).trans l.2.2.2.2.2.1, if_pos (show nI (oC h) = (6 : Int32) from (nI_eq (b := 6) (by omega) (by decide)).mpr (by omega))]; rfl)
      · exact fin_bad hN ho hc hb k1 k2 k3 k4 k5 (by unfold f_X8_mark; rw [n_100 hN, hasP_t hp hc.1.1 g, if_neg I10, wi_t g1, if_neg I10, wi_f g2, if_pos I00]; rfl) (fun M1 u => by unfold f_X9_mark; rw [one_t ((u 0 (by decide) 1).trans r.1) g, if_neg I10, in_t g1, if_neg I10, in_f g2, if_pos I00]; rfl)
    · exact fin_bad hN ho hc hb k1 k2 k3 k4 k5 (by unfold f_X8_mark; rw [n_100 hN, hasP_t hp hc.1.1 g, if_neg I10, wi_f g1, if_pos I00]; rfl) (fun M1 u => by unfold f_X9_mark; rw [one_t ((u 0 (by decide) 1).trans r.1) g, if_neg I10, in_f g1, if_pos I00]; rfl)
  · exact fin_bad hN ho hc hb k1 k2 k3 k4 k5 (by unfold f_X8_mark; rw [n_100 hN, hasP_f hc.1.1 g, if_pos I00]; rfl) (fun M1 u => by unfold f_X9_mark; rw [one_f ((u 0 (by decide) 1).trans r.1) g, if_pos I00]; rfl)
end Al43
