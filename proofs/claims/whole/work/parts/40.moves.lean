/-! calls that change the stand: both alike, the invariant kept -/
section Al40
variable {E : Env1} {x m : Nat} {ad : Nat → Nat} {M M1 M2 : Mem} {h h' : Ho} {pi pi' : Nat → Nat}
/-- what a class's call leaves -/
def Cl (ad : Nat → Nat) (M M1 : Mem) : Prop := (∀ n, (n < 57 ∨ 300 ≤ n) → ∀ k, mi M1 (ad n) k = mi M (ad n) k) ∧ (∀ n, 200 ≤ n → ∀ k, mr M1 (ad n) k = mr M (ad n) k) ∧ M1.2.1 = M.2.1
/-- what a reference's call leaves -/
def Mo (ad : Nat → Nat) (M M1 : Mem) : Prop := (∀ n, (n = 1 ∨ n = 15 ∨ n = 27 ∨ n = 28 ∨ 50 ≤ n) → ∀ k, mi M1 (ad n) k = mi M (ad n) k) ∧ mi M1 (ad 0) 16 = mi M (ad 0) 16 ∧ M1.2.2 = M.2.2 ∧ ∀ k, (k = 25 ∨ k = 26) → ml M1 (ad 0) k = ml M (ad 0) k ∧ ml M1 (ad 50) (k - 19) = ml M (ad 50) (k - 19)
theorem Cl.tr (a : Cl ad M M1) (b : Cl ad M1 M2) : Cl ad M M2 := ⟨fun n hn k => (b.1 n hn k).trans (a.1 n hn k), fun n hn k => (b.2.1 n hn k).trans (a.2.1 n hn k), b.2.2.trans a.2.2⟩
theorem Cl.rf : Cl ad M M := ⟨fun _ _ _ => rfl, fun _ _ _ => rfl, rfl⟩
theorem Cl_fr (f : Fr ad M M1 100 148) : Cl ad M M1 := ⟨fun n hn k => (f.1 n (by omega) k).1, fun n hn k => (f.1 n (by omega) k).2, f.2⟩
theorem Cl_off {lo hi : Nat} (f : Off ad M M1 lo hi) (h : 57 ≤ lo ∧ hi ≤ 300) : Cl ad M M1 := ⟨fun n hn k => f.1 n (by omega) k, fun n hn k => f.mr _ _, congrArg (fun z => z.1) f.2⟩
theorem Cl.mu (a : Cl ad M M1) : Mu ad M M1 := fun n hn k => a.1 n (by omega) k
theorem Mo.tr (a : Mo ad M M1) (b : Mo ad M1 M2) : Mo ad M M2 := ⟨fun n hn k => (b.1 n hn k).trans (a.1 n hn k), b.2.1.trans a.2.1, b.2.2.1.trans a.2.2.1, fun k hk => ⟨(b.2.2.2 k hk).1.trans (a.2.2.2 k hk).1, (b.2.2.2 k hk).2.trans (a.2.2.2 k hk).2⟩⟩
theorem Mo.rf : Mo ad M M := ⟨fun _ _ _ => rfl, rfl, rfl, fun _ _ => ⟨rfl, rfl⟩⟩
theorem Mo_st (a : StM ad M M1) : Mo ad M M1 := ⟨fun n hn k => a.1 n (by omega) (by omega) (by omega) (by omega) k, a.2.1 16 (by omega) (by omega), congrArg (fun z => z.2) a.2.2, fun k _ => ⟨congrArg (fun z => z.1 (ad 0) k) a.2.2, congrArg (fun z => z.1 (ad 50) (k - 19)) a.2.2⟩⟩
theorem Mo_nt (a : NtM ad M M1) : Mo ad M M1 := ⟨fun n hn k => a.1 n (by omega) (by omega) k, a.2.1 16 (by omega), congrArg (fun z => z.2) a.2.2, fun k _ => ⟨congrArg (fun z => z.1 (ad 0) k) a.2.2, congrArg (fun z => z.1 (ad 50) (k - 19)) a.2.2⟩⟩
theorem Mo_wi (hI : ∀ n n', ad n = ad n' → n = n') {a k : Nat} {v : Int32} (h : a ≠ 1 ∧ a ≠ 15 ∧ a ≠ 27 ∧ a ≠ 28 ∧ a < 50 ∧ (a = 0 → k ≠ 16)) : Mo ad M (wi M (ad a) k v) := ⟨fun n hn j => by rw [mi_wi, if_neg (fun z => by have := hI _ _ z.1; omega)], by rw [mi_wi, if_neg (fun z => by have := hI _ _ z.1; omega)], rfl, fun _ _ => ⟨rfl, rfl⟩⟩
theorem Mo_upR (hI : ∀ n n', ad n = ad n' → n = n') {a l k : Nat} {v : Nat → Int32} (h : a ≠ 0 ∧ a ≠ 1 ∧ a ≠ 15 ∧ a ≠ 27 ∧ a ≠ 28 ∧ a < 50) : Mo ad M (upR M (ad a) l k v) := ⟨fun n hn j => by rw [mi_upR, if_neg (fun z => by have := hI _ _ z.1; omega)], by rw [mi_upR, if_neg (fun z => by have := hI _ _ z.1; omega)], rfl, fun _ _ => ⟨rfl, rfl⟩⟩
theorem fin (hN : Nm E (ad 50) (ad 0) ad) (k1 : Ctr ad M) (k2 : Frc ad M) (k3 : Txt ad M) (k4 : Img ad M) (k5 : Drf ad M) {F : Option (Int32 × Mem)} {G : Mem → Option (Int32 × Mem)} {r : Int32} (ho' : okH h') (hF : F = some (r, M1)) (f : Cl ad M M1) (hc' : CH ad M1 100 h' pi') (hG : G M1 = some (r, M2)) (g : Mo ad M1 M2) (hb' : IB (lv ad M2) h') : ∃ r M1 M2, F = some (r, M1) ∧ G M1 = some (r, M2) ∧ Inv E (ad 50) (ad 0) M2 := by
  have kp : Kp ad M M2 := ⟨fun n hn k => (g.1 n (by omega) k).trans (f.1 n (by omega) k), g.2.1.trans (f.1 0 (by omega) 16), fun n hn k => (congrArg (fun z => z (ad n) k) g.2.2.1).trans (f.2.1 n hn k)⟩
  refine ⟨r, M1, M2, hF, hG, ad, h', pi', hN, ho', CH_sm ho'.2.2.1 (fun n hn k => ⟨g.1 n (by omega) k, congrArg (fun z => z (ad n) k) g.2.2.1⟩) hc', hb', fun c hc => ?_, ⟨?_, ?_⟩, Txt_kp kp k3, Img_kp kp k4, Drf_kp kp k5⟩
  · rw [g.1 50 (by omega), f.1 50 (by omega), g.1 1 (by omega), f.1 1 (by omega)]
    exact k1 c hc
  · rw [(g.2.2.2 25 (by omega)).1, show ml M1 (ad 0) 25 = ml M (ad 0) 25 from congrArg (fun z => z (ad 0) 25) f.2.2, ← k2.1, ← show ml M1 (ad 50) 6 = ml M (ad 50) 6 from congrArg (fun z => z (ad 50) 6) f.2.2]
    exact (g.2.2.2 25 (by omega)).2
  · rw [(g.2.2.2 26 (by omega)).1, show ml M1 (ad 0) 26 = ml M (ad 0) 26 from congrArg (fun z => z (ad 0) 26) f.2.2, ← k2.2, ← show ml M1 (ad 50) 7 = ml M (ad 50) 7 from congrArg (fun z => z (ad 50) 7) f.2.2]
    exact (g.2.2.2 26 (by omega)).2
theorem ok_meets (hI : Inv E x m M) : al_meets Inv E x m M := by
  intro a1 a2
  obtain ⟨ad, h, pi, hN, ho, hc, hb, k1, k2, k3, k4, k5⟩ := id hI
  obtain ⟨rfl, rfl⟩ : m = ad 0 ∧ x = ad 50 := ⟨hN.1.symm, hN.2.1.symm⟩
  have r := RO_of ho.1.1 hb
  have hH := hn_of hN (H := 100) (Or.inl rfl)
  have hS := sn_of hN (H := 100) (Or.inl rfl)
  have hT : sT (oS h) < 2 ^ 31 := by have := ho.2.1; omega
  have hp : oP h ≤ 6 := ho.1.1
  have hI' := hN.2.2.1
  have hP : ∀ j, j < 8 → SN E ad (100 + 16 + 4 * j) := fun j hj => (sp_of hN (H := 100) (Or.inl rfl) hj).1
  by_cases g : inP (oP h) a1
  · by_cases gs : (0 : Int32) ≤ a2 ∧ a2 ≤ 7
    · obtain ⟨i, hi, e1⟩ := inP_ex hp g
      have h6 : i < 6 := Nat.lt_of_lt_of_le hi hp
      obtain ⟨s, hs, e2⟩ := rg (n := 7) (by decide) gs
      have hs8 : s < 8 := by omega
      by_cases hk : (sN (oS h) i).testBit s = true
      · exact fin_no hN ho hc hb k1 k2 k3 k4 k5 (by unfold f_X8_meets; rw [n_100 hN, hasP_t hp hc.1.1 g, if_neg I10, st8_t gs, if_neg I10, e1, e2, hH.2.2.1, isKnown_eq hS h6 (by omega) (ho.1.2.2.2.2.2.2.1 i) (hc.1.2.2.2.2.1 i h6), Option.bind_some, hk]; rfl) (fun M1 u => by unfold f_X9_meets; rw [one_t (RO_mu u r).1 g, if_neg I10, st9_t gs, if_neg I10, e1, e2, gd_nI h6 (by decide), ix_nI (by omega), n_10 hN, (RO_mu u r).2.2.2.2.2.1 i hi, has_eq (by have := ho.1.2.2.2.2.2.2.1 i; omega) (by omega), hk]; rfl)
      · have hk : (sN (oS h) i).testBit s = false := by simpa using hk
        by_cases ht : sT (oS h) < 9999
        · obtain ⟨Ma, pi1, ea, ca, fa⟩ := remember_sp hI' hH hS hP ho hc
          have hoa := okH_rem ho
          obtain ⟨Mb, eb, cb, ob⟩ := introduce_sp hI' hH hS hoa.1 hi hs8 ca.1
          have okm := okS_meet hoa.1 hi hs8 (show sT (oS h) + 1 < 20000 by omega)
          have tm : sT (meetS (remS h) i s) ≤ 9999 := by
            unfold meetS
            split
            · show sT (oS h) + 1 ≤ 9999; omega
            · show sT (oS h) + 1 ≤ 9999; omega
          have hc2 := CH_withS hoa.2.2.1 ob ca cb
          have cl : Cl ad M Mb := (Cl_fr fa).tr (Cl_off ob (by omega))
          have rb := RO_mu cl.mu r
          obtain ⟨Mc, ec, bc, nc⟩ := notes_sp hN ho (IB_mu cl.mu hb)
          have rc := RO_of hoa.1.1 bc
          obtain ⟨Md, ed, dd, sd⟩ := learns_sp hN hoa.1 hi hs8 rc
          have bd := mod_st (h := remS h) hp sd bc dd
          obtain ⟨Me, ee, me, se⟩ := passes_sp hN hp (okS_learnB hoa.1 hi hs8) (RO_of (h := withS (remS h) (learnB (remS h) i s)) hp bd).1 dd
          have be : IB (lv ad Me) (withS (remS h) (meetS (remS h) i s)) := mod_st (h := withS (remS h) (learnB (remS h) i s)) hp se bd me
          have hv := okm.2.2.2.1 i
          refine fin hN k1 k2 k3 k4 k5 (okH_withS hoa okm tm) (r := if (sN (meetS (remS h) i s) i).testBit s then 1 else 0) ?_ cl hc2 ?_ ((Mo_nt nc).tr ((Mo_st sd).tr (Mo_st se))) be
          · unfold f_X8_meets
            rw [n_100 hN, hasP_t hp hc.1.1 g, if_neg I10, st8_t gs, if_neg I10, e1, e2, hH.2.2.1, isKnown_eq hS h6 (by omega) (ho.1.2.2.2.2.2.2.1 i) (hc.1.2.2.2.2.1 i h6), Option.bind_some, hk, if_pos (by decide), hc.1.2.2.2.2.2.2.2, if_pos (show nI (sT (oS h)) < (9999 : Int32) from nI_lt (b := 9999) ht (by decide)), ea, Option.bind_some, eb, Option.bind_some, isKnown_eq hS h6 (by omega) hv (cb.2.1 i h6), Option.bind_some]
            cases (sN (meetS (remS h) i s) i).testBit s <;> rfl
          · unfold f_X9_meets
            rw [one_t rb.1 g, if_neg I10, st9_t gs, if_neg I10, e1, e2, gd_nI h6 (by decide), ix_nI (by omega), n_10 hN, rb.2.2.2.2.2.1 i hi, has_eq (by have := ho.1.2.2.2.2.2.2.1 i; omega) (by omega), hk, if_pos (by decide), rb.2.2.2.1, if_neg (show ¬ nI (sT (oS h)) = (9999 : Int32) from fun z => by have := (nI_eq (b := 9999) hT (by decide)).mp z; omega), ec, Option.bind_some, ed, Option.bind_some, ee, Option.bind_some, me.2.2.1 i hi, shrb (s := s) (Nat.lt_of_lt_of_le (show sN (passS (learnB h i s)) i < 256 from hv) (by decide)) (by omega)]
            rfl
        · exact fin_no hN ho hc hb k1 k2 k3 k4 k5 (by unfold f_X8_meets; rw [n_100 hN, hasP_t hp hc.1.1 g, if_neg I10, st8_t gs, if_neg I10, e1, e2, hH.2.2.1, isKnown_eq hS h6 (by omega) (ho.1.2.2.2.2.2.2.1 i) (hc.1.2.2.2.2.1 i h6), Option.bind_some, hk, if_pos (by decide), hc.1.2.2.2.2.2.2.2, if_neg (show ¬ nI (sT (oS h)) < (9999 : Int32) from nI_nlt (b := 9999) (by omega) hT)]; rfl) (fun M1 u => by unfold f_X9_meets; rw [one_t (RO_mu u r).1 g, if_neg I10, st9_t gs, if_neg I10, e1, e2, gd_nI h6 (by decide), ix_nI (by omega), n_10 hN, (RO_mu u r).2.2.2.2.2.1 i hi, has_eq (by have := ho.1.2.2.2.2.2.2.1 i; omega) (by omega), hk, if_pos (by decide), (u 0 (by decide) 2).trans r.2.2.2.1, if_pos (show nI (sT (oS h)) = (9999 : Int32) from (nI_eq (b := 9999) hT (by decide)).mpr (by have := ho.2.1; omega))]; rfl)
    · exact fin_bad hN ho hc hb k1 k2 k3 k4 k5 (by unfold f_X8_meets; rw [n_100 hN, hasP_t hp hc.1.1 g, if_neg I10, st8_f gs, if_pos I00]; rfl) (fun M1 u => by unfold f_X9_meets; rw [one_t ((u 0 (by decide) 1).trans r.1) g, if_neg I10, st9_f gs, if_pos I00]; rfl)
  · exact fin_bad hN ho hc hb k1 k2 k3 k4 k5 (by unfold f_X8_meets; rw [n_100 hN, hasP_f hc.1.1 g, if_pos I00]; rfl) (fun M1 u => by unfold f_X9_meets; rw [one_f ((u 0 (by decide) 1).trans r.1) g, if_pos I00]; rfl)
theorem bears_tb (s : Sd) (i v : Nat) : bears s i v = (decide (8 ≤ v) || (sN s i).testBit v) := rfl
theorem pl_m1 {v : Nat} (h : v ≤ 9) : (nI v - 1 = (-1 : Int32)) = (v = 0) := by
  revert v
  decide +kernel
theorem pl_7 {v : Nat} (h : v ≤ 9) : (nI v - 1 = (7 : Int32)) = (v = 8) := by
  revert v
  decide +kernel
theorem ML_place (hI : ∀ n n', ad n = ad n' → n = n') {p i v : Nat} {s : Sd} (c : ML ad M p s) : ML ad (wi M (ad 9) i (nI v - 1)) p (stayS s i v) := by
  obtain ⟨h1, h2, h3, h4, h5⟩ := c
  have ne : ∀ a b, a ≠ b → ad a ≠ ad b := fun a b h e => h (hI a b e)
  refine ⟨?_, ?_, fun j hj => ?_, fun j hj => ?_, fun j hj => ?_⟩
  · rw [mi_wi, if_neg (fun z => ne _ _ (by omega) z.1)]; exact h1
  · rw [mi_wi, if_neg (fun z => ne _ _ (by omega) z.1)]; exact h2
  · rw [mi_wi, if_neg (fun z => ne _ _ (by omega) z.1)]; exact h3 j hj
  · rw [mi_wi]
    show _ = nI (if j = i then v else sP s j) - 1
    by_cases ej : j = i
    · rw [if_pos ⟨rfl, ej⟩, if_pos ej]
    · rw [if_neg (fun z => ej z.2), if_neg ej]; exact h4 j hj
  · rw [mi_wi, if_neg (fun z => ne _ _ (by omega) z.1)]; exact h5 j hj
theorem stay_self (s : Sd) (i : Nat) : stayS s i (sP s i) = s := by
  unfold stayS
  rw [upN_self]
  rfl
/-- the reference's way up or down, behind its questions -/
theorem goes9 {s0 : Sd} (hN : Nm E (ad 50) (ad 0) ad) {i up : Nat} (hu : up < 2) (hi : i < oP h) (ho : okH h) (h9 : up ≠ 0 → sP (oS h) i < 9) (h0 : up = 0 → 0 < sP (oS h) i) (ht : sT (oS h) < 9999) (hb : IB (lv ad M) h) : ∃ M2, f_X9_goes_L49 E M (ad 0) (nI i) (nI up) (nI (sP (oS h) i) - 1) = some (nI (sP (passS (walkS (oS h) i up)) i) - 1, M2) ∧ IB (lv ad M2) (withS (remS h) (passS (walkS (oS h) i up))) ∧ Mo ad M M2 := by
  have hp := ho.1.1
  have h6 : i < 6 := Nat.lt_of_lt_of_le hi hp
  have hI' := hN.2.2.1
  have r := RO_of hp hb
  have hoa := okH_rem ho
  obtain ⟨Mc, ec, bc, nc⟩ := notes_sp hN ho hb
  have rc := RO_of hoa.1.1 bc
  have okw : okS (oP h) (walkS (oS h) i up) := okS_walk hi ho.1.2.2.2 h9
  have hv := ho.1.2.2.2.2.2.2.2.1 i
  have key : ∀ (b : Int32), ((up = 0 ∨ bears (oS h) i (sP (oS h) i) = true) → b = 1) → (¬ (up = 0 ∨ bears (oS h) i (sP (oS h) i) = true) → b = 0) → ∃ M2, f_X9_goes_L98 E Mc (ad 0) (nI i) (nI up) (nI (sP (oS h) i) - 1) b = some (nI (sP (passS (walkS (oS h) i up)) i) - 1, M2) ∧ IB (lv ad M2) (withS (remS h) (passS (walkS (oS h) i up))) ∧ Mo ad M M2 := by
    intro b hb1 hb0
    unfold f_X9_goes_L98
    dsimp only [nm]
    rw [gd_nI h6 (by decide), ix_nI (by omega), n_9 hN]
    have ev : (if b = 0 then nI (sP (oS h) i) - 1 else if nI up = (1 : Int32) then nI (sP (oS h) i) - 1 + 1 else nI (sP (oS h) i) - 1 - 1) = nI (sP (walkS (oS h) i up) i) - 1 := by
      unfold walkS
      by_cases hz : up = 0
      · rw [hb1 (Or.inl hz), if_neg (by decide), hz, if_neg (by decide), if_pos rfl]
        show _ = nI (upN (sP (oS h)) i (sP (oS h) i - 1) i) - 1
        unfold upN
        obtain ⟨v, hv⟩ : ∃ v, sP (oS h) i = v + 1 := ⟨sP (oS h) i - 1, by have := h0 hz; omega⟩
        rw [if_pos rfl, hv, Nat.add_sub_cancel, nI_pred]
      · have hz1 : up = 1 := by omega
        rw [if_neg hz]
        cases hbe : bears (oS h) i (sP (oS h) i)
        · rw [hb0 (fun z => by rcases z with z | z; exact hz z; rw [hbe] at z; cases z), if_pos rfl, if_neg (by decide)]
        · rw [hb1 (Or.inr hbe), if_neg (by decide), hz1, if_pos (by decide), if_pos rfl]
          show _ = nI (upN (sP (oS h)) i (sP (oS h) i + 1) i) - 1
          unfold upN
          rw [if_pos rfl, pl_up']
    rw [ev]
    have mw : ML ad (wi Mc (ad 9) i (nI (sP (walkS (oS h) i up) i) - 1)) (oP h) (walkS (oS h) i up) := by
      have := ML_place hI' (i := i) (v := sP (walkS (oS h) i up) i) rc.2.2.2
      have e : stayS (oS h) i (sP (walkS (oS h) i up) i) = walkS (oS h) i up := by
        unfold walkS
        split
        · show stayS (oS h) i (upN (sP (oS h)) i (sP (oS h) i - 1) i) = _
          unfold upN
          rw [if_pos rfl]
        · split
          · show stayS (oS h) i (upN (sP (oS h)) i (sP (oS h) i + 1) i) = _
            unfold upN
            rw [if_pos rfl]
          · exact stay_self _ _
      rw [show oS (remS h) = oS h from rfl, e] at this
      exact this
    have sw : StM ad Mc (wi Mc (ad 9) i (nI (sP (walkS (oS h) i up) i) - 1)) := StM_wi hI' (by omega)
    have bw := mod_st (h := remS h) hp sw bc mw
    obtain ⟨Me, ee, me, se⟩ := passes_sp hN hp okw (RO_of (h := withS (remS h) (walkS (oS h) i up)) hp bw).1 mw
    rw [ee, Option.bind_some, me.2.2.2.1 i hi]
    exact ⟨Me, rfl, mod_st (h := withS (remS h) (walkS (oS h) i up)) hp se bw me, (Mo_nt nc).tr ((Mo_st sw).tr (Mo_st se))⟩
  unfold f_X9_goes_L49
  rw [r.2.2.2.1, if_neg (show ¬ nI (sT (oS h)) = (9999 : Int32) from fun z => by have := (nI_eq (b := 9999) (by omega) (by decide)).mp z; omega), ec, Option.bind_some]
  by_cases hz : up = 0
  · rw [hz, if_pos (by decide)]
    rw [hz] at key
    exact key 1 (fun _ => rfl) (fun z => absurd (Or.inl rfl) z)
  · rw [if_neg (nI_ne0 (by omega) (by omega))]
    simp only [pl_7 hv]
    by_cases h8 : sP (oS h) i = 8
    · rw [if_pos h8]
      exact key 1 (fun _ => rfl) (fun z => absurd (Or.inr (by rw [bears_tb, decide_eq_true (show 8 ≤ sP (oS h) i by omega)]; rfl)) z)
    · rw [if_neg h8, gd_nI h6 (by decide), ix_nI (by omega), n_10 hN, pl_up, rc.2.2.2.2.2.1 i hi]
      show ∃ M2, (if f_X9_has E Mc (nI (sN (oS h) i)) (nI (sP (oS h) i)) = 0 then _ else _) = _ ∧ _
      rw [has_eq (by have := ho.1.2.2.2.2.2.2.1 i; omega) (by omega)]
      have h9' := h9 hz
      have eb : bears (oS h) i (sP (oS h) i) = (sN (oS h) i).testBit (sP (oS h) i) := by rw [bears_tb, decide_eq_false (show ¬ 8 ≤ sP (oS h) i by omega), Bool.false_or]
      cases hbt : (sN (oS h) i).testBit (sP (oS h) i)
      · rw [if_pos (by decide)]
        exact key 0 (fun z => by rcases z with z | z; exact absurd z hz; rw [eb, hbt] at z; cases z) (fun _ => rfl)
      · rw [if_neg (by decide)]
        exact key 1 (fun _ => rfl) (fun z => absurd (Or.inr (by rw [eb, hbt])) z)
theorem ok_goes (hI : Inv E x m M) : al_goes Inv E x m M := by
  intro a1 a2
  obtain ⟨ad, h, pi, hN, ho, hc, hb, k1, k2, k3, k4, k5⟩ := id hI
  obtain ⟨rfl, rfl⟩ : m = ad 0 ∧ x = ad 50 := ⟨hN.1.symm, hN.2.1.symm⟩
  have r := RO_of ho.1.1 hb
  have hH := hn_of hN (H := 100) (Or.inl rfl)
  have hS := sn_of hN (H := 100) (Or.inl rfl)
  have hT : sT (oS h) < 2 ^ 31 := by have := ho.2.1; omega
  have hp : oP h ≤ 6 := ho.1.1
  have hI' := hN.2.2.1
  have hP : ∀ j, j < 8 → SN E ad (100 + 16 + 4 * j) := fun j hj => (sp_of hN (H := 100) (Or.inl rfl) hj).1
  by_cases g : inP (oP h) a1
  · by_cases g2 : (0 : Int32) ≤ a2 ∧ a2 ≤ 1
    · obtain ⟨i, hi, e1⟩ := inP_ex hp g
      have h6 : i < 6 := Nat.lt_of_lt_of_le hi hp
      obtain ⟨up, hu, e2⟩ := rg (n := 1) (by decide) g2
      have hv := ho.1.2.2.2.2.2.2.2.1 i
      have hend : (nI (sP (oS h) i) - 1 = if nI up = (1 : Int32) then (8 : Int32) else -1) = (if up = 1 then sP (oS h) i = 9 else sP (oS h) i = 0) := by
        rcases (show up = 0 ∨ up = 1 by omega) with rfl | rfl
        · rw [if_neg (by decide), if_neg (by decide)]; exact pl_m1 hv
        · rw [if_pos (by decide), if_pos rfl]; exact pl8 hv
      by_cases he : (if up = 1 then sP (oS h) i = 9 else sP (oS h) i = 0)
      · refine fin_no hN ho hc hb k1 k2 k3 k4 k5 (by unfold f_X8_goes; dsimp only [nm]; rw [n_100 hN, hasP_t hp hc.1.1 g, if_neg I10, wi_t g2, if_neg I10, e1, e2, gd_nI h6 (by decide), ix_nI (by omega), hH.2.2.1, hS.2.2, hc.1.2.2.2.2.2.1 i h6]; simp only [hend]; rw [if_pos he]) (fun M1 u => ?_)
        have r1 := RO_mu u r
        unfold f_X9_goes
        rw [one_t r1.1 g, if_neg I10, in_t g2, if_neg I10, e1, e2, gd_nI h6 (by decide), ix_nI (by omega), n_9 hN, r1.2.2.2.2.2.2.1 i hi]
        rcases (show up = 0 ∨ up = 1 by omega) with rfl | rfl
        · rw [if_neg (by decide)] at he
          rw [if_neg (by decide)]
          unfold f_X9_goes_L40
          simp only [pl_m1 hv]
          rw [if_pos (by decide), if_pos he]
          rfl
        · rw [if_pos rfl] at he
          simp only [pl8 hv]
          rw [if_pos (by decide), if_pos he]
          rfl
      · have g9 : ∀ M1, Mu ad M M1 → f_X9_goes E M1 (ad 0) a1 a2 = f_X9_goes_L49 E M1 (ad 0) (nI i) (nI up) (nI (sP (oS h) i) - 1) := by
          intro M1 u
          have r1 := RO_mu u r
          unfold f_X9_goes
          rw [one_t r1.1 g, if_neg I10, in_t g2, if_neg I10, e1, e2, gd_nI h6 (by decide), ix_nI (by omega), n_9 hN, r1.2.2.2.2.2.2.1 i hi]
          unfold f_X9_goes_L40
          rcases (show up = 0 ∨ up = 1 by omega) with rfl | rfl
          · rw [if_neg (by decide)] at he
            simp only [pl_m1 hv]
            rw [if_neg (by decide), if_pos (by decide), if_neg he]
          · rw [if_pos rfl] at he
            simp only [pl8 hv]
            rw [if_pos (by decide), if_neg he, if_neg (by decide)]
        have h9 : up ≠ 0 → sP (oS h) i < 9 := fun z => by rw [if_pos (show up = 1 by omega)] at he; omega
        have h0 : up = 0 → 0 < sP (oS h) i := fun z => by rw [if_neg (show ¬ up = 1 by omega)] at he; omega
        by_cases ht : sT (oS h) < 9999
        · obtain ⟨Ma, pi1, ea, ca, fa⟩ := remember_sp hI' hH hS hP ho hc
          have hoa := okH_rem ho
          obtain ⟨Mb, eb, cb, ob⟩ := walk_sp hI' hS h6 (show up < 2 by omega) hoa.1.2.2.2 h0 ca.1.2.2.2
          have okw : okS (oP h) (walkS (oS h) i up) := okS_walk hi ho.1.2.2.2 h9
          have tw : sT (walkS (oS h) i up) = sT (oS h) := by
            unfold walkS
            (repeat' split) <;> rfl
          obtain ⟨Mc, ec, cc, oc⟩ := passMinute_sp hI' hS okw cb
          have okp := okS_pass okw (show sT (walkS (oS h) i up) + 1 < 20000 by rw [tw]; omega)
          have hc2 := CH_withS hoa.2.2.1 (ob.tr oc) ca cc
          have cl : Cl ad M Mc := (Cl_fr fa).tr (Cl_off (ob.tr oc) (by omega))
          obtain ⟨M2, e9, b9, m9⟩ := goes9 (s0 := oS h) hN (show up < 2 by omega) hi ho h9 h0 ht (IB_mu cl.mu hb)
          refine fin hN k1 k2 k3 k4 k5 (okH_withS hoa okp (show sT (walkS (oS h) i up) + 1 ≤ 9999 by rw [tw]; omega)) (r := nI (sP (passS (walkS (oS h) i up)) i) - 1) ?_ cl hc2 ((g9 Mc cl.mu).trans e9) m9 b9
          unfold f_X8_goes
          dsimp only [nm]
          rw [n_100 hN, hasP_t hp hc.1.1 g, if_neg I10, wi_t g2, if_neg I10, e1, e2, gd_nI h6 (by decide), ix_nI (by omega), hH.2.2.1, hS.2.2, hc.1.2.2.2.2.2.1 i h6]
          simp only [hend]
          rw [if_neg he, hc.1.2.2.2.2.2.2.2, if_pos (show nI (sT (oS h)) < (9999 : Int32) from nI_lt (b := 9999) ht (by decide)), ea, Option.bind_some, eb, Option.bind_some, ec, Option.bind_some, cc.2.2.1 i h6]
        · exact fin_no hN ho hc hb k1 k2 k3 k4 k5 (by unfold f_X8_goes; dsimp only [nm]; rw [n_100 hN, hasP_t hp hc.1.1 g, if_neg I10, wi_t g2, if_neg I10, e1, e2, gd_nI h6 (by decide), ix_nI (by omega), hH.2.2.1, hS.2.2, hc.1.2.2.2.2.2.1 i h6]; simp only [hend]; rw [if_neg he, hc.1.2.2.2.2.2.2.2, if_neg (show ¬ nI (sT (oS h)) < (9999 : Int32) from nI_nlt (b := 9999) (by omega) hT)]) (fun M1 u => by rw [g9 M1 u]; unfold f_X9_goes_L49; rw [(u 0 (by decide) 2).trans r.2.2.2.1, if_pos (show nI (sT (oS h)) = (9999 : Int32) from (nI_eq (b := 9999) hT (by decide)).mpr (by have := ho.2.1; omega))]; rfl)
    · exact fin_ten hN ho hc hb k1 k2 k3 k4 k5 (by unfold f_X8_goes; rw [n_100 hN, hasP_t hp hc.1.1 g, if_neg I10, wi_f g2, if_pos I00]; rfl) (fun M1 u => by unfold f_X9_goes; rw [one_t ((u 0 (by decide) 1).trans r.1) g, if_neg I10, in_f g2, if_pos I00]; rfl)
  · exact fin_ten hN ho hc hb k1 k2 k3 k4 k5 (by unfold f_X8_goes; rw [n_100 hN, hasP_f hc.1.1 g, if_pos I00]; rfl) (fun M1 u => by unfold f_X9_goes; rw [one_f ((u 0 (by decide) 1).trans r.1) g, if_pos I00]; rfl)
end Al40
