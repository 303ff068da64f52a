/-! more calls that change -/
section Al41
variable {E : Env1} {x m : Nat} {ad : Nat → Nat} {M M1 M2 : Mem} {h h' : Ho} {pi pi' : Nat → Nat} {p : Nat}
theorem waits9 (hN : Nm E (ad 50) (ad 0) ad) (hp : p ≤ 6) (N : Nat) (hN6 : N ≤ 60) : ∀ (f j : Nat) (M : Mem) (s : Sd), j ≤ N → N - j < f → okS p s → sT s ≤ 9999 → mi M (ad 0) 1 = nI p → ML ad M p s → ∃ M2, f_X9_waits_L21 E f M (ad 0) (nI N) (nI j) = some (nI (knownAllN p (passN (N - j) s)), M2) ∧ ML ad M2 p (passN (N - j) s) ∧ StM ad M M2 := by
  intro f
  induction f with
  | zero => intro j M s _ h; omega
  | succ f ih =>
    intro j M s hj hf ho ht hm h
    show ∃ M2, b_X9_waits_L21 E (f_X9_waits_L21 E f) M (ad 0) (nI N) (nI j) = _ ∧ _
    unfold b_X9_waits_L21
    by_cases e : j = N
    · subst e
      rw [if_pos (nI_le (Nat.le_refl _) (by omega)), Nat.sub_self, knownAll_eq hN hp ho.2.2.2.1 hm h]
      exact ⟨M, rfl, h, StM.rf⟩
    · rw [if_neg (nI_ge (a := j) (b := N) (by omega) (by omega)), h.1]
      obtain ⟨d, hd⟩ : ∃ d, N - j = d + 1 := ⟨N - j - 1, by omega⟩
      rw [hd]
      unfold passN
      by_cases h9 : 9999 ≤ sT s
      · rw [if_pos (show (9999 : Int32) ≤ nI (sT s) from nI_le (a := 9999) h9 (by omega)), if_pos h9, knownAll_eq hN hp ho.2.2.2.1 hm h]
        exact ⟨M, rfl, h, StM.rf⟩
      · rw [if_neg (show ¬ (9999 : Int32) ≤ nI (sT s) from nI_ge (a := sT s) (b := 9999) (by omega) (by decide)), if_neg h9]
        obtain ⟨M1, e1, h1, o1⟩ := passes_sp hN hp ho hm h
        rw [e1, Option.bind_some, nI_1]
        obtain ⟨M2, e2, h2, o2⟩ := ih (j + 1) M1 (passS s) (by omega) (by omega) (okS_pass ho (by omega)) (by show sT s + 1 ≤ 9999; omega) ((o1.2.1 1 (by omega) (by omega)).trans hm) h1
        rw [show N - (j + 1) = d by omega] at h2 e2
        exact ⟨M2, e2, h2, o1.tr o2⟩
theorem ok_waits (hI : Inv E x m M) : al_waits Inv E x m M := by
  intro a1
  obtain ⟨ad, h, pi, hN, ho, hc, hb, k1, k2, k3, k4, k5⟩ := id hI
  obtain ⟨rfl, rfl⟩ : m = ad 0 ∧ x = ad 50 := ⟨hN.1.symm, hN.2.1.symm⟩
  have r := RO_of ho.1.1 hb
  have hH := hn_of hN (H := 100) (Or.inl rfl)
  have hS := sn_of hN (H := 100) (Or.inl rfl)
  have hT : sT (oS h) < 2 ^ 31 := by have := ho.2.1; omega
  have hp : oP h ≤ 6 := ho.1.1
  have hI' := hN.2.2.1
  have hP : ∀ j, j < 8 → SN E ad (100 + 16 + 4 * j) := fun j hj => (sp_of hN (H := 100) (Or.inl rfl) hj).1
  by_cases g2 : (1 : Int32) ≤ a1 ∧ a1 ≤ 60
  · obtain ⟨n, hn, e1⟩ := rg (n := 60) (by decide) (show (0 : Int32) ≤ a1 ∧ a1 ≤ 60 from ⟨Int32.le_trans (by decide) g2.1, g2.2⟩)
    obtain ⟨Ma, pi1, ea, ca, fa⟩ := remember_sp hI' hH hS hP ho hc
    have hoa := okH_rem ho
    obtain ⟨Mb, eb, cb, ob⟩ := passMinutes_sp hI' hS (show n ≤ 99 by omega) hoa.1.2.2.2 hoa.2.1 ca.1.2.2.2
    have okp := okS_passN n (oS (remS h)) hoa.1.2.2.2 hoa.2.1
    have hc2 := CH_withS hoa.2.2.1 ob ca cb
    have cl : Cl ad M Mb := (Cl_fr fa).tr (Cl_off ob (by omega))
    obtain ⟨Mc, ec, bc, nc⟩ := notes_sp hN ho (IB_mu cl.mu hb)
    have rc := RO_of hoa.1.1 bc
    obtain ⟨Md, ed, dd, sd⟩ := waits9 hN hp n hn FU 0 Mc (oS (remS h)) (by omega) (by unfold FU; omega) hoa.1.2.2.2 hoa.2.1 rc.1 rc.2.2.2
    rw [Nat.sub_zero] at ed dd
    refine fin hN k1 k2 k3 k4 k5 (okH_withS hoa okp.1 okp.2) (r := nI (knownAllN (oP h) (passN n (oS (remS h))))) ?_ cl hc2 ?_ ((Mo_nt nc).tr (Mo_st sd)) (mod_st (h := remS h) hp sd bc dd)
    · unfold f_X8_waits
      rw [wi_t g2, if_neg I10, n_100 hN, hH.2.2.1, ea, Option.bind_some, e1, eb, Option.bind_some, knownTogether_eq hS okp.1 cb, knownAll_6 okp.1 hp]
      rfl
    · unfold f_X9_waits
      rw [in_t g2, if_neg I10, ec, Option.bind_some, e1, ← nI_0, ed]
  · exact fin_bad hN ho hc hb k1 k2 k3 k4 k5 (by unfold f_X8_waits; rw [wi_f g2, if_pos I00]; rfl) (fun M1 u => by unfold f_X9_waits; rw [in_f g2, if_pos I00]; rfl)
def carS (s : Sd) (k : Nat) : Sd := (sT s, sC s ^^^ 2 ^ k, sS s, sN s, sP s)
theorem okS_car {s : Sd} (ho : okS p s) {k : Nat} (hk : k < 7) : okS p (carS s k) := ⟨ho.1, Nat.xor_lt_two_pow (n := 7) ho.2.1 (Nat.pow_lt_pow_right (by decide) hk), ho.2.2⟩
theorem CS_car (hI : ∀ n n', ad n = ad n' → n = n') {S v : Nat} {s : Sd} (h : CS ad M S s) : CS ad (wi M (ad S) 3 (nI v)) S (sT s, v, sS s, sN s, sP s) := by
  obtain ⟨h1, h2, h3, h4, h5⟩ := h
  have ne : ∀ a b, a ≠ b → ad a ≠ ad b := fun a b h e => h (hI a b e)
  refine ⟨fun j hj => ?_, fun j hj => ?_, fun j hj => ?_, ?_, ?_⟩
  · rw [mi_wi, if_neg (fun z => ne _ _ (by omega) z.1)]; exact h1 j hj
  · rw [mi_wi, if_neg (fun z => ne _ _ (by omega) z.1)]; exact h2 j hj
  · rw [mi_wi, if_neg (fun z => ne _ _ (by omega) z.1)]; exact h3 j hj
  · rw [mi_wi, if_pos ⟨rfl, rfl⟩]; rfl
  · rw [mi_wi, if_neg (by omega)]; exact h5
theorem ML_car (hI : ∀ n n', ad n = ad n' → n = n') {v : Nat} {s : Sd} (h : ML ad M p s) : ML ad (wi M (ad 0) 3 (nI v)) p (sT s, v, sS s, sN s, sP s) := by
  obtain ⟨h1, h2, h3, h4, h5⟩ := h
  have ne : ∀ a b, a ≠ b → ad a ≠ ad b := fun a b h e => h (hI a b e)
  refine ⟨?_, ?_, fun j hj => ?_, fun j hj => ?_, fun j hj => ?_⟩
  · rw [mi_wi, if_neg (by omega)]; exact h1
  · rw [mi_wi, if_pos ⟨rfl, rfl⟩]; rfl
  · rw [mi_wi, if_neg (fun z => ne _ _ (by omega) z.1)]; exact h3 j hj
  · rw [mi_wi, if_neg (fun z => ne _ _ (by omega) z.1)]; exact h4 j hj
  · rw [mi_wi, if_neg (fun z => ne _ _ (by omega) z.1)]; exact h5 j hj
theorem ok_carpet (hI : Inv E x m M) : al_carpet Inv E x m M := by
  intro a1 a2
  obtain ⟨ad, h, pi, hN, ho, hc, hb, k1, k2, k3, k4, k5⟩ := id hI
  obtain ⟨rfl, rfl⟩ : m = ad 0 ∧ x = ad 50 := ⟨hN.1.symm, hN.2.1.symm⟩
  have r := RO_of ho.1.1 hb
  have hH := hn_of hN (H := 100) (Or.inl rfl)
  have hS := sn_of hN (H := 100) (Or.inl rfl)
  have hT : sT (oS h) < 2 ^ 31 := by have := ho.2.1; omega
  have hp : oP h ≤ 6 := ho.1.1
  have hI' := hN.2.2.1
  have hP : ∀ j, j < 8 → SN E ad (100 + 16 + 4 * j) := fun j hj => (sp_of hN (H := 100) (Or.inl rfl) hj).1
  by_cases g : (0 : Int32) ≤ a1 ∧ a1 ≤ 6
  · by_cases g2 : (0 : Int32) ≤ a2 ∧ a2 ≤ 1
    · obtain ⟨k, hk, e1⟩ := rg (n := 6) (by decide) g
      obtain ⟨b, hb1, e2⟩ := rg (n := 1) (by decide) g2
      have hC := ho.1.2.2.2.2.1
      have hq : ((if (sC (oS h)).testBit k then (1 : Int32) else 0) = nI b) = ((if (sC (oS h)).testBit k then 1 else 0) = b) := by
        rcases (show b = 0 ∨ b = 1 by omega) with rfl | rfl <;> cases (sC (oS h)).testBit k <;> decide
      by_cases he : (if (sC (oS h)).testBit k then 1 else 0) = b
      · exact fin_no hN ho hc hb k1 k2 k3 k4 k5 (by unfold f_X8_carpet; dsimp only [nm]; rw [wi_t g, if_neg I10, wi_t g2, if_neg I10, n_100 hN, hH.2.2.1, e1, e2, hc.1.2.2.2.2.2.2.1, shrb (by omega) (by omega)]; simp only [hq]; rw [if_pos he]) (fun M1 u => by unfold f_X9_carpet; dsimp only [nm]; rw [in_t g, if_neg I10, in_t g2, if_neg I10, e1, e2, (u 0 (by decide) 3).trans r.2.2.2.2.1, shrb (by omega) (by omega)]; simp only [hq]; rw [if_pos he])
      · obtain ⟨Ma, pi1, ea, ca, fa⟩ := remember_sp hI' hH hS hP ho hc
        have hoa := okH_rem ho
        have cb := CS_car (M := Ma) (v := sC (oS h) ^^^ 2 ^ k) hI' ca.1.2.2.2
        have ob : Off ad Ma (wi Ma (ad (100 + 12)) 3 (nI (sC (oS h) ^^^ 2 ^ k))) (100 + 12) (100 + 16) := Off_wi hI' Ma (by omega)
        have okc := okS_car (k := k) ho.1.2.2.2 (by omega)
        have hc2 := CH_withS (s' := carS (oS h) k) hoa.2.2.1 ob ca cb
        have cl := (Cl_fr fa).tr (Cl_off ob (by omega))
        obtain ⟨Mc, ec, bc, nc⟩ := notes_sp hN ho (IB_mu cl.mu hb)
        have rc := RO_of hoa.1.1 bc
        have mc := ML_car (v := sC (oS h) ^^^ 2 ^ k) hI' rc.2.2.2
        have sc : StM ad Mc (wi Mc (ad 0) 3 (nI (sC (oS h) ^^^ 2 ^ k))) := StM_wi hI' (by omega)
        refine fin hN k1 k2 k3 k4 k5 (okH_withS hoa okc ho.2.1) (r := if (sC (oS h)).testBit k then 1 else 0) ?_ cl hc2 ?_ ((Mo_nt nc).tr (Mo_st sc)) (mod_st (h := remS h) hp sc bc mc)
        · unfold f_X8_carpet
          dsimp only [nm]
          rw [wi_t g, if_neg I10, wi_t g2, if_neg I10, n_100 hN, hH.2.2.1, e1, e2, hc.1.2.2.2.2.2.2.1, shrb (by omega) (by omega)]
          simp only [hq]
          rw [if_neg he, ea, Option.bind_some, ca.1.2.2.2.2.2.2.1, shl1 (by omega), nI_xor]
          rfl
        · unfold f_X9_carpet
          dsimp only [nm]
          rw [in_t g, if_neg I10, in_t g2, if_neg I10, e1, e2, (cl.mu 0 (by decide) 3).trans r.2.2.2.2.1, shrb (by omega) (by omega)]
          simp only [hq]
          rw [if_neg he, ec, Option.bind_some, rc.2.2.2.2.1, shl1 (by omega), nI_xor]
          have ev : (1 : Int32) - nI b = if (sC (oS h)).testBit k then 1 else 0 := by
            rcases (show b = 0 ∨ b = 1 by omega) with rfl | rfl
            · cases hh : (sC (oS h)).testBit k
              · rw [hh] at he; exact absurd rfl he
              · decide
            · cases hh : (sC (oS h)).testBit k
              · decide
              · rw [hh] at he; exact absurd rfl he
          rw [ev]
          rfl
    · exact fin_bad hN ho hc hb k1 k2 k3 k4 k5 (by unfold f_X8_carpet; rw [wi_t g, if_neg I10, wi_f g2, if_pos I00]; rfl) (fun M1 u => by unfold f_X9_carpet; rw [in_t g, if_neg I10, in_f g2, if_pos I00]; rfl)
  · exact fin_bad hN ho hc hb k1 k2 k3 k4 k5 (by unfold f_X8_carpet; rw [wi_f g, if_pos I00]; rfl) (fun M1 u => by unfold f_X9_carpet; rw [in_f g, if_pos I00]; rfl)
theorem step9 (hN : Nm E (ad 50) (ad 0) ad) {s : Sd} {k kind : Nat} {v : Int32} (hk : k < 8) (hp : p ≤ 6) (hm : mi M (ad 0) 1 = nI p) (c : ML ad M p s) : ∃ M2, f_X9_step_L44 E FU (wi M (ad 11) k (nI kind)) (ad 0) (nI k) v 0 = some (v, M2) ∧ ML ad M2 p (putS s k kind) ∧ StM ad M M2 := by
  have hI := hN.2.2.1
  have ne : ∀ a b, a ≠ b → ad a ≠ ad b := fun a b h e => h (hI a b e)
  obtain ⟨h1, h2, h3, h4, h5⟩ := c
  obtain ⟨n, e⟩ := loop_FU (fun n (a : Mem) w => f_X9_step_L44 E n a (ad 0) (nI k) v w) (fun j => upR (wi M (ad 11) k (nI kind)) (ad 10) 0 j (fun i => nI (wo (sN s i) (2 ^ k)))) p (by omega) (by
    intro n j hj
    show b_X9_step_L44 E (f_X9_step_L44 E n) _ (ad 0) (nI k) v (nI j) = _
    unfold b_X9_step_L44
    dsimp only [nm]
    have hmj : mi (upR (wi M (ad 11) k (nI kind)) (ad 10) 0 j (fun i => nI (wo (sN s i) (2 ^ k)))) (ad 0) 1 = nI p := by rw [mi_upR, if_neg (fun z => ne _ _ (by omega) z.1), mi_wi, if_neg (fun z => ne _ _ (by omega) z.1)]; exact hm
    rw [hmj, if_neg (le_n hj (by omega)), gd_nI (by omega) (by decide), ix_nI (by omega), n_10 hN, mi_upR, if_neg (by omega), mi_wi, if_neg (fun z => ne _ _ (by omega) z.1), h3 j hj, shl1 (by omega), nI_wo, nI_1, upR_s _ _ _ _ _ _ (by omega) _ rfl])
  rw [upR_0] at e
  refine ⟨upR (wi M (ad 11) k (nI kind)) (ad 10) 0 p (fun i => nI (wo (sN s i) (2 ^ k))), e.trans ?_, ?_, (StM_wi hI (by omega)).tr (StM_upR hI (by omega))⟩
  · show b_X9_step_L44 E (f_X9_step_L44 E n) _ (ad 0) (nI k) v (nI p) = _
    unfold b_X9_step_L44
    have hmj : mi (upR (wi M (ad 11) k (nI kind)) (ad 10) 0 p (fun i => nI (wo (sN s i) (2 ^ k)))) (ad 0) 1 = nI p := by rw [mi_upR, if_neg (fun z => ne _ _ (by omega) z.1), mi_wi, if_neg (fun z => ne _ _ (by omega) z.1)]; exact hm
    rw [hmj, if_pos (nI_le (Nat.le_refl _) (by omega))]
  · refine ⟨?_, ?_, fun j hj => ?_, fun j hj => ?_, fun j hj => ?_⟩
    · rw [mi_upR, if_neg (fun z => ne _ _ (by omega) z.1), mi_wi, if_neg (fun z => ne _ _ (by omega) z.1)]; exact h1
    · rw [mi_upR, if_neg (fun z => ne _ _ (by omega) z.1), mi_wi, if_neg (fun z => ne _ _ (by omega) z.1)]; exact h2
    · rw [mi_upR, if_pos ⟨rfl, by omega, by omega⟩]; rfl
    · rw [mi_upR, if_neg (fun z => ne _ _ (by omega) z.1), mi_wi, if_neg (fun z => ne _ _ (by omega) z.1)]; exact h4 j hj
    · rw [mi_upR, if_neg (fun z => ne _ _ (by omega) z.1), mi_wi]
      show _ = nI (if j = k then kind else sS s j)
      by_cases e : j = k
      · rw [if_pos ⟨rfl, e⟩, if_pos e]
      · rw [if_neg (fun z => e z.2), if_neg e]; exact h5 j hj
theorem ok_step (hI : Inv E x m M) : al_step Inv E x m M := by
  intro a1 a2
  obtain ⟨ad, h, pi, hN, ho, hc, hb, k1, k2, k3, k4, k5⟩ := id hI
  obtain ⟨rfl, rfl⟩ : m = ad 0 ∧ x = ad 50 := ⟨hN.1.symm, hN.2.1.symm⟩
  have r := RO_of ho.1.1 hb
  have hH := hn_of hN (H := 100) (Or.inl rfl)
  have hS := sn_of hN (H := 100) (Or.inl rfl)
  have hT : sT (oS h) < 2 ^ 31 := by have := ho.2.1; omega
  have hp : oP h ≤ 6 := ho.1.1
  have hI' := hN.2.2.1
  have hP : ∀ j, j < 8 → SN E ad (100 + 16 + 4 * j) := fun j hj => (sp_of hN (H := 100) (Or.inl rfl) hj).1
  by_cases gs : (0 : Int32) ≤ a1 ∧ a1 ≤ 7
  · by_cases g2 : (0 : Int32) ≤ a2 ∧ a2 ≤ 5
    · obtain ⟨k, hk, e1⟩ := rg (n := 7) (by decide) gs
      obtain ⟨b, hb1, e2⟩ := rg (n := 5) (by decide) g2
      obtain ⟨Ma, pi1, ea, ca, fa⟩ := remember_sp hI' hH hS hP ho hc
      have hoa := okH_rem ho
      obtain ⟨Mb, eb, cb, ob⟩ := putIn_sp (kind := b) hI' hS (show k < 8 by omega) ca.1.2.2.2
      have okp := okS_put (k := k) (kind := b) hoa.1.2.2.2 (by omega)
      have hc2 := CH_withS hoa.2.2.1 ob ca cb
      have cl := (Cl_fr fa).tr (Cl_off ob (by omega))
      obtain ⟨Mc, ec, bc, nc⟩ := notes_sp hN ho (IB_mu cl.mu hb)
      have rc := RO_of hoa.1.1 bc
      have hset : setOf (oP h) (fun i => (sN (oS h) i).testBit k) < 256 := Nat.lt_of_lt_of_le (set_lt _ _) (Nat.pow_le_pow_right (n := 2) (j := 8) (by decide) (by omega))
      obtain ⟨Md, ed, dd, sd⟩ := step9 (kind := b) (v := nI (popc (setOf (oP h) (fun i => (sN (oS h) i).testBit k)))) hN (show k < 8 by omega) hp rc.1 rc.2.2.2
      refine fin hN k1 k2 k3 k4 k5 (okH_withS hoa okp ho.2.1) (r := nI (popc (setOf (oP h) (fun i => (sN (oS h) i).testBit k)))) ?_ cl hc2 ?_ ((Mo_nt nc).tr (Mo_st sd)) (mod_st (h := remS h) hp sd bc dd)
      · unfold f_X8_step
        rw [st8_t gs, if_neg I10, wi_t g2, if_neg I10, e1, e2, n_100 hN, hH.2.2.1, knowers_eq hS (by omega) ho.1.2.2.2.2.2.2.1 hc.1.2.2.2.2.1, Option.bind_some, ea, Option.bind_some, eb, Option.bind_some, who_6 ho.1.2.2.2 hp, bitCount_eq E M hset]
      · unfold f_X9_step
        rw [st9_t gs, if_neg I10, in_t g2, if_neg I10, e1, e2, ec, Option.bind_some, whoKnows_eq hN (by omega) hp hoa.1.2.2.2.2.2.2.1 rc.1 rc.2.2.2, Option.bind_some]
        show (f_X9_bits E Mc (nI (setOf (oP h) (fun i => (sN (oS h) i).testBit k)))).bind _ = _
        rw [bits_eq E Mc hset, Option.bind_some, gd_nI (by omega) (by decide), ix_nI (by omega), n_11 hN]
        exact ed
    · exact fin_bad hN ho hc hb k1 k2 k3 k4 k5 (by unfold f_X8_step; rw [st8_t gs, if_neg I10, wi_f g2, if_pos I00]; rfl) (fun M1 u => by unfold f_X9_step; rw [st9_t gs, if_neg I10, in_f g2, if_pos I00]; rfl)
  · exact fin_bad hN ho hc hb k1 k2 k3 k4 k5 (by unfold f_X8_step; rw [st8_f gs, if_pos I00]; rfl) (fun M1 u => by unfold f_X9_step; rw [st9_f gs, if_pos I00]; rfl)
theorem ok_undo (hI : Inv E x m M) : al_undo Inv E x m M := by
  obtain ⟨ad, h, pi, hN, ho, hc, hb, k1, k2, k3, k4, k5⟩ := id hI
  obtain ⟨rfl, rfl⟩ : m = ad 0 ∧ x = ad 50 := ⟨hN.1.symm, hN.2.1.symm⟩
  have r := RO_of ho.1.1 hb
  have hH := hn_of hN (H := 100) (Or.inl rfl)
  have hS := sn_of hN (H := 100) (Or.inl rfl)
  have hT : sT (oS h) < 2 ^ 31 := by have := ho.2.1; omega
  have hp : oP h ≤ 6 := ho.1.1
  have hI' := hN.2.2.1
  have hP : ∀ j, j < 8 → SN E ad (100 + 16 + 4 * j) := fun j hj => (sp_of hN (H := 100) (Or.inl rfl) hj).1
  have e21 : mi M (ad 0) 21 = nI (oU h) := hb.2.2.2.2.1
  have hu8 := ho.2.2.1
  by_cases hu : oU h = 0
  · exact fin_no hN ho hc hb k1 k2 k3 k4 k5 (by unfold f_X8_undo; rw [n_100 hN, hc.2.1, hu, if_pos (by decide)]; rfl) (fun M1 u => by unfold f_X9_undo; rw [(u 0 (by decide) 21).trans e21, hu, if_pos (by decide)]; rfl)
  · obtain ⟨Ma, ea, ca, fa⟩ := goBack_sp hI' hH hS hP ho (by omega) hc
    have cl := Cl_fr fa
    obtain ⟨M2, e2, b2, kp, l2, s50, s1⟩ := undo9_sp hN ho (show 0 < oU h by omega) (IB_mu cl.mu hb)
    have mo : Mo ad Ma M2 := ⟨fun n hn k => by
      rcases hn with rfl | rfl | rfl | rfl | hn
      · exact s1 k
      · exact kp.1 15 (by omega) k
      · exact kp.1 27 (by omega) k
      · exact kp.1 28 (by omega) k
      · exact s50 n hn k, kp.2.1, congrArg (fun z => z.2) l2, fun k _ => ⟨congrArg (fun z => z.1 (ad 0) k) l2, congrArg (fun z => z.1 (ad 50) (k - 19)) l2⟩⟩
    refine fin hN k1 k2 k3 k4 k5 (okH_back ho (by omega)) (r := nI (sT (oL h (oU h - 1)))) ?_ cl ca e2 mo b2
    unfold f_X8_undo
    rw [n_100 hN, hc.2.1, if_neg (nI_ne0 (by omega) (by omega)), ea, Option.bind_some, hH.2.2.1, ca.1.2.2.2.2.2.2.2]
    rfl
end Al41
