/-! earlier stands: laid aside, taken back -/
section Past39
/-- ints and references change inside alone, longs not at all -/
def Fr (ad : Nat → Nat) (M M1 : Mem) (lo hi : Nat) : Prop := (∀ n, (n < lo ∨ hi ≤ n) → ∀ k, mi M1 (ad n) k = mi M (ad n) k ∧ mr M1 (ad n) k = mr M (ad n) k) ∧ M1.2.1 = M.2.1
variable {E : Env1} {x m : Nat} {ad : Nat → Nat} {M M1 M2 : Mem} {h : Ho} {pi : Nat → Nat} {H p : Nat} {s : Sd}
theorem Fr.tr {lo hi : Nat} (a : Fr ad M M1 lo hi) (b : Fr ad M1 M2 lo hi) : Fr ad M M2 lo hi := ⟨fun n hn k => ⟨(b.1 n hn k).1.trans (a.1 n hn k).1, (b.1 n hn k).2.trans (a.1 n hn k).2⟩, b.2.trans a.2⟩
theorem Fr_off {lo hi lo' hi' : Nat} (o : Off ad M M1 lo' hi') (h1 : lo ≤ lo') (h2 : hi' ≤ hi) : Fr ad M M1 lo hi := ⟨fun n hn k => ⟨o.1 n (by omega) k, o.mr _ _⟩, congrArg (fun z => z.1) o.2⟩
theorem Fr.ml {lo hi : Nat} (a : Fr ad M M1 lo hi) (q k : Nat) : ml M1 q k = ml M q k := congrArg (fun z => z q k) a.2
theorem Kp_fr {lo hi : Nat} (o : Fr ad M M1 lo hi) (h : 57 ≤ lo ∧ hi ≤ 200) : Kp ad M M1 := ⟨fun n hn k => (o.1 n (by omega) k).1, (o.1 0 (by omega) 16).1, fun n hn k => (o.1 n (by omega) k).2⟩
theorem Mu_fr {lo hi : Nat} (o : Fr ad M M1 lo hi) (h : 50 ≤ lo) : Mu ad M M1 := fun n hn k => (o.1 n (by omega) k).1
theorem CH_withS {s' : Sd} (hu : oU h ≤ 8) (o : Off ad M M1 (H + 12) (H + 16)) (c : CH ad M H h pi) (hs : CS ad M1 (H + 12) s') : CH ad M1 H (withS h s') pi := by
  obtain ⟨c1, c2, c3, c4, c5, c6, c7⟩ := c
  exact ⟨CO_withS (fun n h1 h2 k => o.1 n (by omega) k) c1 hs, (o.1 H (by omega) 5).trans c2, CR_sm (fun j _ _ k => o.1 j (by omega) k) c3, CR_sm (fun j _ _ k => o.1 j (by omega) k) c4, CR_sm (fun j _ _ k => o.1 j (by omega) k) c5, PM_sm (fun k => o.mr _ _) c6, fun j hj => CS_same (fun n h1 h2 k => o.1 n (by omega) k) (c7 j hj)⟩
theorem okH_withS {s' : Sd} (ho : okH h) (h1 : okS (oP h) s') (h2 : sT s' ≤ 9999) : okH (withS h s') := ⟨okP_withS ho.1 h1, h2, ho.2.2⟩
theorem mod_st {s' : Sd} (hp : oP h ≤ 6) (a : StM ad M M1) (hb : IB (lv ad M) h) (hs : ML ad M1 (oP h) s') : IB (lv ad M1) (withS h s') := IB_withS hb a.lv ((ML_BS hp).mpr hs)
/-! laying aside -/
def remS (h : Ho) : Ho := (oP h, oK h, oW h, oS h, (if oU h = 8 then 7 else oU h) + 1, (fun j => if j = (if oU h = 8 then 7 else oU h) then oS h else if oU h = 8 then oL h (j + 1) else oL h j), h.2.2.2.2.2.2)
theorem okH_rem (ho : okH h) : okH (remS h) := by
  obtain ⟨h1, h2, h3, h4, h5⟩ := ho
  refine ⟨h1, h2, ?_, fun j hj => ?_, h5⟩
  · show (if oU h = 8 then 7 else oU h) + 1 ≤ 8
    split <;> omega
  · have hj : j < (if oU h = 8 then 7 else oU h) + 1 := hj
    show okS (oP h) (if j = (if oU h = 8 then 7 else oU h) then oS h else if oU h = 8 then oL h (j + 1) else oL h j) ∧ _
    show okS (oP h) (if j = (if oU h = 8 then 7 else oU h) then oS h else if oU h = 8 then oL h (j + 1) else oL h j) ∧ sT (if j = (if oU h = 8 then 7 else oU h) then oS h else if oU h = 8 then oL h (j + 1) else oL h j) ≤ 9999
    by_cases e : j = (if oU h = 8 then 7 else oU h)
    · rw [if_pos e]
      exact ⟨h1.2.2.2, h2⟩
    · rw [if_neg e]
      by_cases e8 : oU h = 8
      · rw [if_pos e8] at e hj ⊢
        exact h4 _ (by omega)
      · rw [if_neg e8] at e hj ⊢
        exact h4 _ (by omega)
/-- references from 0 on -/
def upP (M : Mem) (a n : Nat) (v : Nat → Nat) : Mem := (M.1, M.2.1, fun q k => if q = a ∧ k < n then v k else M.2.2 q k)
theorem mr_upP (M : Mem) (a n : Nat) (v : Nat → Nat) (q k : Nat) : mr (upP M a n v) q k = if q = a ∧ k < n then v k else mr M q k := rfl
theorem upP_0 (M : Mem) (a : Nat) (v : Nat → Nat) : upP M a 0 v = M := mem_ext (fun _ _ => rfl) (fun _ _ => rfl) (fun q k => by rw [mr_upP, if_neg (by omega)])
theorem upP_s (M : Mem) (a n : Nat) (v : Nat → Nat) (w : Nat) (hw : w = v n) : wr (upP M a n v) a n w = upP M a (n + 1) v := by
  subst hw
  refine mem_ext (fun _ _ => rfl) (fun _ _ => rfl) (fun q k => ?_)
  rw [mr_wr, mr_upP, mr_upP]
  by_cases e : q = a ∧ k = n
  · rw [if_pos e, if_pos ⟨e.1, by omega⟩, e.2]
  · rw [if_neg e]
    by_cases e2 : q = a ∧ k < n
    · rw [if_pos e2, if_pos ⟨e2.1, by omega⟩]
    · rw [if_neg e2, if_neg (fun z => e2 ⟨z.1, by
        have := z.2
        by_cases e3 : k = n
        · exact absurd ⟨z.1, e3⟩ e
        · omega⟩)]
theorem drop_eq (hI : ∀ n n', ad n = ad n' → n = n') (hH : HN E ad H) (M : Mem) : f_X0_dropOldest E M (ad H) = some (wi (wr (upP M (ad (H + 5)) 7 (fun k => mr M (ad (H + 5)) (k + 1))) (ad (H + 5)) 7 (mr M (ad (H + 5)) 0)) (ad H) 5 7) := by
  unfold f_X0_dropOldest
  rw [hH.2.2.2.1]
  obtain ⟨n, e⟩ := loop_FUj (fun n (a : Mem) w => f_X0_dropOldest_L9 E n a (ad H) (mr M (ad (H + 5)) 0) w) (fun j => upP M (ad (H + 5)) (j - 1) (fun k => mr M (ad (H + 5)) (k + 1))) 1 8 (by decide) (by decide) (by
    intro n j h1 hj
    show b_X0_dropOldest_L9 E (f_X0_dropOldest_L9 E n) _ (ad H) _ (nI j) = _
    obtain ⟨i, rfl⟩ : ∃ i, j = i + 1 := ⟨j - 1, by omega⟩
    unfold b_X0_dropOldest_L9
    rw [if_neg (lt8 hj), gd_nI hj (by decide), nI_pred, gd_nI (by omega) (by decide), ix_nI (by omega), ix_nI (by omega), hH.2.2.2.1, nI_1, mr_upP, if_neg (by omega)]
    rw [Nat.add_sub_cancel, upP_s _ _ _ _ _ rfl, Nat.add_sub_cancel])
  rw [Nat.sub_self, upP_0] at e
  refine e.trans ?_
  show b_X0_dropOldest_L9 E (f_X0_dropOldest_L9 E n) _ (ad H) _ (nI 8) = _
  unfold b_X0_dropOldest_L9
  rw [if_pos (by decide), hH.2.2.2.1]
theorem rem13_sp (hI : ∀ n n', ad n = ad n' → n = n') (hH : HN E ad H) (hS : SN E ad (H + 12)) (hP : ∀ j, j < 8 → SN E ad (H + 16 + 4 * j)) {u : Nat} (hu : u < 8) (hm : mi M (ad H) 5 = nI u) (c6 : PM ad M H pi) : ∃ M1, f_X0_remember_L13 E M (ad H) = some M1 ∧ CE ad M1 (H + 16 + 4 * pi u) M (H + 12) ∧ mi M1 (ad H) 5 = nI (u + 1) ∧ (∀ n, (n ≠ H ∧ (n < H + 16 + 4 * pi u ∨ H + 16 + 4 * pi u + 4 ≤ n)) → ∀ k, mi M1 (ad n) k = mi M (ad n) k) ∧ (∀ k, k ≠ 5 → mi M1 (ad H) k = mi M (ad H) k) ∧ M1.2 = M.2 := by
  unfold f_X0_remember_L13
  rw [hm, within_p E M (nI_pos' (by omega)) (show nI u ≤ (7 : Int32) from nI_le (a := u) (b := 7) (by omega) (by decide)), if_neg I10, gd_nI hu (by decide), ix_nI (by omega), hH.2.2.2.1, hH.2.2.1, (c6.1 u hu).1]
  obtain ⟨M1, e1, ce, o⟩ := copyStand_sp hI (hP (pi u) (c6.1 u hu).2) hS (Or.inr (by omega)) M
  rw [e1, Option.bind_some, o.1 H (by omega) 5, hm, nI_1]
  refine ⟨_, rfl, ⟨fun k hk => ?_, fun k hk => ?_, fun k hk => ?_, ?_, ?_⟩, ?_, fun n hn k => ?_, fun k hk => ?_, o.2⟩
  · rw [mi_wi, if_neg (fun z => by have := hI _ _ z.1; omega)]; exact ce.1 k hk
  · rw [mi_wi, if_neg (fun z => by have := hI _ _ z.1; omega)]; exact ce.2.1 k hk
  · rw [mi_wi, if_neg (fun z => by have := hI _ _ z.1; omega)]; exact ce.2.2.1 k hk
  · rw [mi_wi, if_neg (fun z => by have := hI _ _ z.1; omega)]; exact ce.2.2.2.1
  · rw [mi_wi, if_neg (fun z => by have := hI _ _ z.1; omega)]; exact ce.2.2.2.2
  · rw [mi_wi, if_pos ⟨rfl, rfl⟩]
  · rw [mi_wi, if_neg (fun z => by have := hI _ _ z.1; omega)]; exact o.1 n (by omega) k
  · rw [mi_wi, if_neg (fun z => hk z.2)]; exact o.1 H (by omega) k
/-- what is kept of a house when only its past changes -/
theorem CO_past (hd : ∀ n, n ≠ H → n < H + 16 → H ≤ n → ∀ k, mi M1 (ad n) k = mi M (ad n) k) (h0 : mi M1 (ad H) 0 = mi M (ad H) 0) (c : CO ad M H h) {t : Nat × (Nat → Sd) × (Nat × Nat × Nat) × (Nat → Int32) × (Nat → Int32) × (Nat → Int32)} : CO ad M1 H (oP h, oK h, oW h, oS h, t) := ⟨h0.trans c.1, fun i hi => (hd (H + 1) (by omega) (by omega) (by omega) i).trans (c.2.1 i hi), fun i hi => (hd (H + 2) (by omega) (by omega) (by omega) i).trans (c.2.2.1 i hi), CS_same (fun n h1 h2 k => hd n (by omega) (by omega) (by omega) k) c.2.2.2⟩
theorem remember_sp (hI : ∀ n n', ad n = ad n' → n = n') (hH : HN E ad H) (hS : SN E ad (H + 12)) (hP : ∀ j, j < 8 → SN E ad (H + 16 + 4 * j)) (ho : okH h) (c : CH ad M H h pi) : ∃ M1 pi', f_X0_remember E M (ad H) = some M1 ∧ CH ad M1 H (remS h) pi' ∧ Fr ad M M1 H (H + 48) := by
  obtain ⟨c1, c2, c3, c4, c5, c6, c7⟩ := c
  have hu8 := ho.2.2.1
  unfold f_X0_remember
  rw [c2]
  by_cases e8 : oU h = 8
  · rw [if_neg (show ¬ nI (oU h) < (8 : Int32) from nI_nlt (a := oU h) (b := 8) (by omega) (by omega)), drop_eq hI hH, Option.bind_some]
    generalize hMa : wi (wr (upP M (ad (H + 5)) 7 (fun k => mr M (ad (H + 5)) (k + 1))) (ad (H + 5)) 7 (mr M (ad (H + 5)) 0)) (ad H) 5 7 = Ma
    have m1 : ∀ n k, ¬ (n = H ∧ k = 5) → mi Ma (ad n) k = mi M (ad n) k := fun n k hn => by
      rw [← hMa, mi_wi, if_neg (fun z => hn ⟨hI _ _ z.1, z.2⟩)]
      rfl
    have m2 : mi Ma (ad H) 5 = nI 7 := by rw [← hMa, mi_wi, if_pos ⟨rfl, rfl⟩]; rfl
    have m3 : ∀ n k, n ≠ H + 5 → mr Ma (ad n) k = mr M (ad n) k := fun n k hn => by
      rw [← hMa, mr_wi, mr_wr, if_neg (fun z => hn (hI _ _ z.1)), mr_upP, if_neg (fun z => hn (hI _ _ z.1))]
    have m4 : ∀ j, j < 8 → mr Ma (ad (H + 5)) j = if j = 7 then mr M (ad (H + 5)) 0 else mr M (ad (H + 5)) (j + 1) := fun j hj => by
      rw [← hMa, mr_wi, mr_wr]
      by_cases e : j = 7
      · rw [if_pos ⟨rfl, e⟩, if_pos e]
      · rw [if_neg (fun z => e z.2), if_neg e, mr_upP, if_pos ⟨rfl, by omega⟩]
    have m5 : Ma.2.1 = M.2.1 := by rw [← hMa]; rfl
    have pm : PM ad Ma H (fun j => if j = 7 then pi 0 else pi (j + 1)) := by
      refine ⟨fun j hj => ?_, fun i j hi hj e => ?_⟩
      · rw [m4 j hj]
        show (if j = 7 then _ else _) = ad (H + 16 + 4 * if j = 7 then pi 0 else pi (j + 1)) ∧ (if j = 7 then pi 0 else pi (j + 1)) < 8
        split
        · exact c6.1 0 (by omega)
        · exact c6.1 (j + 1) (by omega)
      · have e : (if i = 7 then pi 0 else pi (i + 1)) = (if j = 7 then pi 0 else pi (j + 1)) := e
        by_cases a : i = 7 <;> by_cases b : j = 7
        · omega
        · rw [if_pos a, if_neg b] at e; have := c6.2 _ _ (by omega) (by omega) e; omega
        · rw [if_neg a, if_pos b] at e; have := c6.2 _ _ (by omega) (by omega) e; omega
        · rw [if_neg a, if_neg b] at e; have := c6.2 _ _ (by omega) (by omega) e; omega
    obtain ⟨M1, e1, ce, u1, f1, f2, f3⟩ := rem13_sp hI hH hS hP (by decide : 7 < 8) m2 pm
    rw [if_pos rfl] at ce f1
    have p0 := (c6.1 0 (by omega)).2
    refine ⟨M1, _, e1, ⟨?_, ?_, ?_, ?_, ?_, PM_sm (fun k => congrArg (fun z => z.2 (ad (H + 5)) k) f3) pm, fun j hj => ?_⟩, ⟨fun n hn k => ⟨(f1 n (by omega) k).trans (m1 n k (by omega)), (congrArg (fun z => z.2 (ad n) k) f3).trans (m3 n k (by omega))⟩, (congrArg (fun z => z.1) f3).trans m5⟩⟩
    · exact CO_past (M := M) (fun n h1 h2 h3 k => (f1 n (by omega) k).trans (m1 n k (by omega))) ((f2 0 (by omega)).trans (m1 H 0 (by omega))) c1
    · show _ = nI ((if oU h = 8 then 7 else oU h) + 1)
      rw [if_pos e8]; exact u1
    · exact CR_sm (fun j _ _ k => (f1 j (by omega) k).trans (m1 j k (by omega))) c3
    · exact CR_sm (fun j _ _ k => (f1 j (by omega) k).trans (m1 j k (by omega))) c4
    · exact CR_sm (fun j _ _ k => (f1 j (by omega) k).trans (m1 j k (by omega))) c5
    · have hj : j < (if oU h = 8 then 7 else oU h) + 1 := hj
      show CS ad M1 (H + 16 + 4 * (if j = 7 then pi 0 else pi (j + 1))) (if j = (if oU h = 8 then 7 else oU h) then oS h else if oU h = 8 then oL h (j + 1) else oL h j)
      rw [if_pos e8] at hj ⊢
      by_cases e7 : j = 7
      · rw [if_pos e7, if_pos e7]
        exact CS_CE ce (CS_same (fun n h1 h2 k => m1 n k (by omega)) c1.2.2.2)
      · rw [if_neg e7, if_neg e7, if_pos e8]
        have q : pi (j + 1) ≠ pi 0 := fun e => by have := c6.2 _ _ (by omega) (by omega) e; omega
        exact CS_same (fun n h1 h2 k => (f1 n (by omega) k).trans (m1 n k (by omega))) (c7 (j + 1) (by omega))
  · rw [if_pos (show nI (oU h) < (8 : Int32) from nI_lt (a := oU h) (b := 8) (by omega) (by decide))]
    obtain ⟨M1, e1, ce, u1, f1, f2, f3⟩ := rem13_sp hI hH hS hP (by omega : oU h < 8) c2 c6
    have p0 := (c6.1 (oU h) (by omega)).2
    refine ⟨M1, pi, e1, ⟨?_, ?_, ?_, ?_, ?_, PM_sm (fun k => congrArg (fun z => z.2 (ad (H + 5)) k) f3) c6, fun j hj => ?_⟩, ⟨fun n hn k => ⟨f1 n (by omega) k, congrArg (fun z => z.2 (ad n) k) f3⟩, congrArg (fun z => z.1) f3⟩⟩
    · exact CO_past (M := M) (fun n h1 h2 h3 k => f1 n (by omega) k) (f2 0 (by omega)) c1
    · show _ = nI ((if oU h = 8 then 7 else oU h) + 1)
      rw [if_neg e8]; exact u1
    · exact CR_sm (fun j _ _ k => f1 j (by omega) k) c3
    · exact CR_sm (fun j _ _ k => f1 j (by omega) k) c4
    · exact CR_sm (fun j _ _ k => f1 j (by omega) k) c5
    · have hj : j < (if oU h = 8 then 7 else oU h) + 1 := hj
      show CS ad M1 (H + 16 + 4 * pi j) (if j = (if oU h = 8 then 7 else oU h) then oS h else if oU h = 8 then oL h (j + 1) else oL h j)
      rw [if_neg e8] at hj ⊢
      by_cases e7 : j = oU h
      · rw [if_pos e7, e7]
        exact CS_CE ce c1.2.2.2
      · rw [if_neg e7, if_neg e8]
        have q : pi j ≠ pi (oU h) := fun e => e7 (c6.2 _ _ (by omega) (by omega) e)
        exact CS_same (fun n h1 h2 k => f1 n (by omega) k) (c7 j (by omega))
/-! the reference's -/
theorem BS_sh {f g : Nat → Int32} {o o' : Nat} (hp : p ≤ 6) (hg : ∀ i, i < 22 → g (o' + i) = f (o + i)) (b : BS f o p s) : BS g o' p s := by
  obtain ⟨h1, h2, h3, h4, h5⟩ := b
  refine ⟨(hg 0 (by omega)).trans h1, (hg 1 (by omega)).trans h2, fun i hi => ?_, fun i hi => ?_, fun i hi => ?_⟩
  · rw [Nat.add_assoc, hg (2 + i) (by omega), ← Nat.add_assoc]; exact h3 i hi
  · rw [Nat.add_assoc, hg (8 + i) (by omega), ← Nat.add_assoc]; exact h4 i hi
  · rw [Nat.add_assoc, hg (14 + i) (by omega), ← Nat.add_assoc]; exact h5 i hi
theorem IB_rem {f g : Nat → Int32} (ho : okH h) (hb : IB f h) (h1 : ∀ k, k < 105 → k ≠ 26 → g k = f k) (h2 : g 26 = nI ((if oU h = 8 then 7 else oU h) + 1)) (h3 : ∀ j, j < (if oU h = 8 then 7 else oU h) → ∀ i, i < 22 → g (105 + 22 * j + i) = f (105 + 22 * (if oU h = 8 then j + 1 else j) + i)) (h4 : ∀ i, i < 22 → g (105 + 22 * (if oU h = 8 then 7 else oU h) + i) = f i) : IB g (remS h) := by
  obtain ⟨a1, a2, a3, a4, a5, a6, a7, a8, a9, b1, b2, b3⟩ := hb
  have hp := ho.1.1
  have hA := ho.2.2.2.2.1
  have hB := ho.2.2.2.2.2.1
  have hC := ho.2.2.2.2.2.2.1
  refine ⟨(h1 _ (by omega) (by omega)).trans a1, fun i hi => ?_, fun i hi => ?_, BS_sh hp (fun i hi => ?_) a4, h2, fun j hj => ?_, (h1 _ (by omega) (by omega)).trans a7, (h1 _ (by omega) (by omega)).trans a8, (h1 _ (by omega) (by omega)).trans a9, fun k hk => ?_, fun k hk => ?_, fun k hk => ?_⟩
  · have hi : i < oP h := hi
    exact (h1 _ (by omega) (by omega)).trans (a2 i hi)
  · have hi : i < oP h := hi
    exact (h1 _ (by omega) (by omega)).trans (a3 i hi)
  · exact h1 _ (by omega) (by omega)
  · have hj : j < (if oU h = 8 then 7 else oU h) + 1 := hj
    show BS g (105 + 22 * j) (oP h) (if j = (if oU h = 8 then 7 else oU h) then oS h else if oU h = 8 then oL h (j + 1) else oL h j)
    by_cases e : j = (if oU h = 8 then 7 else oU h)
    · rw [if_pos e, e]
      exact BS_sh hp (fun i hi => (h4 i hi).trans (by rw [Nat.zero_add])) a4
    · rw [if_neg e]
      have h3' := h3 j (by omega)
      have hle : (if oU h = 8 then 7 else oU h) + 1 ≤ 8 := by have := ho.2.2.1; split <;> omega
      by_cases e8 : oU h = 8
      · rw [if_pos e8] at h3' ⊢
        rw [if_pos e8] at e hj
        exact BS_sh hp h3' (a6 (j + 1) (by omega))
      · rw [if_neg e8] at h3' ⊢
        rw [if_neg e8] at e hj
        exact BS_sh hp h3' (a6 j (by omega))
  · have hk : k < 3 * oA h := hk
    exact (h1 _ (by omega) (by omega)).trans (b1 k hk)
  · have hk : k < 4 * oB h := hk
    exact (h1 _ (by omega) (by omega)).trans (b2 k hk)
  · have hk : k < 4 * oC h := hk
    exact (h1 _ (by omega) (by omega)).trans (b3 k hk)
/-- only the laid ones changed -/
def NtM (ad : Nat → Nat) (M M1 : Mem) : Prop := (∀ n, n ≠ 0 → n ≠ 20 → ∀ k, mi M1 (ad n) k = mi M (ad n) k) ∧ (∀ k, k ≠ 21 → mi M1 (ad 0) k = mi M (ad 0) k) ∧ M1.2 = M.2
theorem Kp_nt (a : NtM ad M M1) : Kp ad M M1 := ⟨fun n hn k => a.1 n (by omega) (by omega) k, a.2.1 16 (by omega), fun n _ k => congrArg (fun z => z.2 (ad n) k) a.2.2⟩
theorem lv_ne26 (a1 : ∀ n, n ≠ 0 → n ≠ 20 → ∀ k, mi M1 (ad n) k = mi M (ad n) k) (a2 : ∀ k, k ≠ 21 → mi M1 (ad 0) k = mi M (ad 0) k) : ∀ k, k < 105 → k ≠ 26 → lv ad M1 k = lv ad M k := by
  intro k h1 h2
  unfold lv
  simp only [if_neg h2, if_pos h1, a2 2 (by omega), a2 3 (by omega), a2 1 (by omega), a2 4 (by omega), a2 5 (by omega), a2 6 (by omega), a1 10 (by omega) (by omega), a1 9 (by omega) (by omega), a1 11 (by omega) (by omega), a1 7 (by omega) (by omega), a1 8 (by omega) (by omega), a1 12 (by omega) (by omega), a1 13 (by omega) (by omega), a1 14 (by omega) (by omega)]
theorem notes_sp (hN : Nm E x m ad) (ho : okH h) (hb : IB (lv ad M) h) : ∃ M1, f_X9_notes E M m = some M1 ∧ IB (lv ad M1) (remS h) ∧ NtM ad M M1 := by
  have hI := hN.2.2.1
  have e0 := hN.1
  subst e0
  have hu8 := ho.2.2.1
  have hu : mi M (ad 0) 21 = nI (oU h) := hb.2.2.2.2.1
  have l49 : ∀ (Ma : Mem) (u : Nat), u < 8 → mi Ma (ad 0) 21 = nI u → f_X9_notes_L49 E Ma (ad 0) = some (wi (upR Ma (ad 20) (22 * u) 22 (lv ad Ma)) (ad 0) 21 (nI (u + 1))) := by
    intro Ma u hu hm
    unfold f_X9_notes_L49
    rw [hm, n_20 hN, show (22 : Int32) * nI u = nI (22 * u) from pk_mul 22 u, lays_eq hN (by omega) (by omega) (by decide), Option.bind_some, mi_upR, if_neg (fun z => by have := hI _ _ z.1; omega), hm, nI_1]
  unfold f_X9_notes
  rw [hu]
  by_cases e8 : oU h = 8
  · rw [e8, if_pos (by decide)]
    obtain ⟨n, e⟩ := loop_FU (fun n (a : Mem) w => f_X9_notes_L11 E n a (ad 0) w) (fun j => upR M (ad 20) 0 j (fun k => mi M (ad 20) (k + 22))) 154 (by decide) (by
      intro n j hj
      show b_X9_notes_L11 E (f_X9_notes_L11 E n) _ (ad 0) (nI j) = _
      unfold b_X9_notes_L11
      rw [if_neg (show ¬ (154 : Int32) ≤ nI j from nI_ge (b := 154) hj (by decide)), gd_b (k := 22) (c := 22) rfl (by omega) (by decide), gd_nI (by omega) (by decide), ix_nI (by omega), ix_b (k := 22) (c := 22) rfl (by omega), n_20 hN, nI_1, mi_upR, if_neg (by omega), upR_s _ _ _ _ _ _ (by omega) _ rfl])
    rw [upR_0] at e
    rw [e]
    show ∃ M1, b_X9_notes_L11 E (f_X9_notes_L11 E n) _ (ad 0) (nI 154) = some M1 ∧ _
    unfold b_X9_notes_L11
    rw [if_pos (by decide)]
    generalize hMa : upR M (ad 20) 0 154 (fun k => mi M (ad 20) (k + 22)) = Ma
    have ma : ∀ n k, n ≠ 20 → mi Ma (ad n) k = mi M (ad n) k := fun n k hn => by rw [← hMa, mi_upR, if_neg (fun z => hn (hI _ _ z.1))]
    have ma2 : ∀ k, k < 154 → mi Ma (ad 20) k = mi M (ad 20) (k + 22) := fun k hk => by rw [← hMa, mi_upR, if_pos ⟨rfl, by omega, by omega⟩]; rfl
    rw [ma 0 21 (by omega), hu, e8, show nI 8 - 1 = nI 7 by decide, l49 _ 7 (by decide) (by rw [mi_wi, if_pos ⟨rfl, rfl⟩])]
    have lva : lv ad (wi Ma (ad 0) 21 (nI 7)) = fun k => if k = 26 then nI 7 else lv ad Ma k := by
      funext k
      by_cases e26 : k = 26
      · subst e26
        show mi (wi Ma (ad 0) 21 (nI 7)) (ad 0) 21 = _
        rw [mi_wi, if_pos ⟨rfl, rfl⟩, if_pos rfl]
      · rw [if_neg e26]
        by_cases e105 : k < 105
        · exact lv_ne26 (fun n h1 h2 k => by rw [mi_wi, if_neg (fun z => h1 (hI _ _ z.1))]) (fun k hk => by rw [mi_wi, if_neg (fun z => hk z.2)]) k e105 e26
        · obtain ⟨i, rfl⟩ : ∃ i, k = 105 + i := ⟨k - 105, by omega⟩
          rw [lv_ah, lv_ah, mi_wi, if_neg (fun z => by have := hI _ _ z.1; omega)]
    rw [lva]
    refine ⟨_, rfl, IB_rem ho hb (fun k h1 h2 => ?_) ?_ (fun j hj i hi => ?_) (fun i hi => ?_), fun n h1 h2 k => ?_, fun k hk => ?_, ?_⟩
    · exact lv_ne26 (fun n h1 h2 k => by rw [mi_wi, if_neg (fun z => h1 (hI _ _ z.1)), mi_upR, if_neg (fun z => h2 (hI _ _ z.1)), mi_wi, if_neg (fun z => h1 (hI _ _ z.1)), ma n k h2]) (fun k hk => by rw [mi_wi, if_neg (fun z => hk z.2), mi_upR, if_neg (fun z => by have := hI _ _ z.1; omega), mi_wi, if_neg (fun z => hk z.2), ma 0 k (by omega)]) k h1 h2
    · show mi (wi _ (ad 0) 21 (nI (7 + 1))) (ad 0) 21 = _
      rw [mi_wi, if_pos ⟨rfl, rfl⟩, if_pos e8]
    · rw [if_pos e8] at hj ⊢
      rw [Nat.add_assoc, Nat.add_assoc, lv_ah, lv_ah, mi_wi, if_neg (fun z => by have := hI _ _ z.1; omega), mi_upR, if_neg (by omega), mi_wi, if_neg (fun z => by have := hI _ _ z.1; omega), ma2 _ (by omega)]
      rw [show 22 * j + i + 22 = 22 * (j + 1) + i by omega]
    · rw [if_pos e8, Nat.add_assoc, lv_ah, mi_wi, if_neg (fun z => by have := hI _ _ z.1; omega), mi_upR, if_pos ⟨rfl, by omega, by omega⟩, show 22 * 7 + i - 22 * 7 = i by omega]
      show (if i = 26 then _ else lv ad Ma i) = _
      rw [if_neg (by omega)]
      by_cases e : i < 105
      · exact lv_ne26 (fun n h1 h2 k => ma n k h2) (fun k hk => ma 0 k (by omega)) i e (by omega)
      · omega
    · rw [mi_wi, if_neg (fun z => h1 (hI _ _ z.1)), mi_upR, if_neg (fun z => h2 (hI _ _ z.1)), mi_wi, if_neg (fun z => h1 (hI _ _ z.1)), ma n k h2]
    · rw [mi_wi, if_neg (fun z => hk z.2), mi_upR, if_neg (fun z => by have := hI _ _ z.1; omega), mi_wi, if_neg (fun z => hk z.2), ma 0 k (by omega)]
    · rw [← hMa]; rfl
  · rw [if_neg (show ¬ nI (oU h) = (8 : Int32) from fun z => e8 ((nI_eq (a := oU h) (b := 8) (by omega) (by decide)).mp z)), l49 M (oU h) (by omega) hu]
    refine ⟨_, rfl, IB_rem ho hb (fun k h1 h2 => ?_) ?_ (fun j hj i hi => ?_) (fun i hi => ?_), fun n h1 h2 k => ?_, fun k hk => ?_, rfl⟩
    · exact lv_ne26 (fun n h1 h2 k => by rw [mi_wi, if_neg (fun z => h1 (hI _ _ z.1)), mi_upR, if_neg (fun z => h2 (hI _ _ z.1))]) (fun k hk => by rw [mi_wi, if_neg (fun z => hk z.2), mi_upR, if_neg (fun z => by have := hI _ _ z.1; omega)]) k h1 h2
    · show mi (wi _ (ad 0) 21 (nI (oU h + 1))) (ad 0) 21 = _
      rw [mi_wi, if_pos ⟨rfl, rfl⟩, if_neg e8]
    · rw [if_neg e8] at hj ⊢
      rw [Nat.add_assoc, lv_ah, lv_ah, mi_wi, if_neg (fun z => by have := hI _ _ z.1; omega), mi_upR, if_neg (by omega)]
    · rw [if_neg e8, Nat.add_assoc, lv_ah, mi_wi, if_neg (fun z => by have := hI _ _ z.1; omega), mi_upR, if_pos ⟨rfl, by omega, by omega⟩, show 22 * oU h + i - 22 * oU h = i by omega]
    · rw [mi_wi, if_neg (fun z => h1 (hI _ _ z.1)), mi_upR, if_neg (fun z => h2 (hI _ _ z.1))]
    · rw [mi_wi, if_neg (fun z => hk z.2), mi_upR, if_neg (fun z => by have := hI _ _ z.1; omega)]
/-! taking back -/
def backS (h : Ho) : Ho := (oP h, oK h, oW h, oL h (oU h - 1), oU h - 1, h.2.2.2.2.2)
theorem okH_back (ho : okH h) (hu : 0 < oU h) : okH (backS h) := by
  obtain ⟨h1, h2, h3, h4, h5⟩ := ho
  have := h4 (oU h - 1) (by omega)
  exact ⟨⟨h1.1, h1.2.1, h1.2.2.1, this.1⟩, this.2, (by show oU h - 1 ≤ 8; omega), fun j hj => h4 j (by have hj : j < oU h - 1 := hj; omega), h5⟩
theorem goBack_sp (hI : ∀ n n', ad n = ad n' → n = n') (hH : HN E ad H) (hS : SN E ad (H + 12)) (hP : ∀ j, j < 8 → SN E ad (H + 16 + 4 * j)) (ho : okH h) (hu : 0 < oU h) (c : CH ad M H h pi) : ∃ M1, f_X0_goBack E M (ad H) = some M1 ∧ CH ad M1 H (backS h) pi ∧ Fr ad M M1 H (H + 48) := by
  obtain ⟨c1, c2, c3, c4, c5, c6, c7⟩ := c
  have hu8 := ho.2.2.1
  obtain ⟨u, hu1⟩ : ∃ u, oU h = u + 1 := ⟨oU h - 1, by omega⟩
  unfold f_X0_goBack
  rw [c2, within_p E M (show (1 : Int32) ≤ nI (oU h) from nI_le (a := 1) hu (by omega)) (show nI (oU h) ≤ (8 : Int32) from nI_le (b := 8) hu8 (by decide)), if_neg I10, hu1, nI_pred, mi_wi, if_pos ⟨rfl, rfl⟩, gd_nI (by omega) (by decide), ix_nI (by omega), hH.2.2.1, hH.2.2.2.1, mr_wi, (c6.1 u (by omega)).1]
  obtain ⟨M1, e1, ce, o⟩ := copyStand_sp hI hS (hP (pi u) (c6.1 u (by omega)).2) (Or.inl (by omega)) (wi M (ad H) 5 (nI u))
  rw [e1]
  have f1 : ∀ n, (n < H + 12 ∨ H + 16 ≤ n) → ∀ k, ¬ (n = H ∧ k = 5) → mi M1 (ad n) k = mi M (ad n) k := fun n hn k hk => by rw [o.1 n (by omega) k, mi_wi, if_neg (fun z => hk ⟨hI _ _ z.1, z.2⟩)]
  have p0 := (c6.1 u (by omega)).2
  refine ⟨M1, rfl, ⟨⟨(f1 H (by omega) 0 (by omega)).trans c1.1, fun i hi => (f1 (H + 1) (by omega) i (by omega)).trans (c1.2.1 i hi), fun i hi => (f1 (H + 2) (by omega) i (by omega)).trans (c1.2.2.1 i hi), ?_⟩, ?_, ?_, ?_, ?_, PM_sm (fun k => o.mr _ _) c6, fun j hj => ?_⟩, fun n hn k => ⟨f1 n (by omega) k (by omega), o.mr _ _⟩, congrArg (fun z => z.1) o.2⟩
  · show CS ad M1 (H + 12) (oL h (oU h - 1))
    rw [hu1, Nat.add_sub_cancel]
    exact CS_CE ce (CS_same (M := M) (fun n h1 h2 k => by rw [mi_wi, if_neg (fun z => by have := hI _ _ z.1; omega)]) (c7 u (by omega)))
  · show mi M1 (ad H) 5 = nI (oU h - 1)
    rw [o.1 H (by omega) 5, mi_wi, if_pos ⟨rfl, rfl⟩, hu1, Nat.add_sub_cancel]
  · exact CR_sm (fun j _ _ k => f1 j (by omega) k (by omega)) c3
  · exact CR_sm (fun j _ _ k => f1 j (by omega) k (by omega)) c4
  · exact CR_sm (fun j _ _ k => f1 j (by omega) k (by omega)) c5
  · have hj : j < oU h - 1 := hj
    exact CS_same (fun n h1 h2 k => f1 n (by omega) k (by omega)) (c7 j (by omega))
/-- what taking leaves in the row -/
theorem lv_tk (hI : ∀ n n', ad n = ad n' → n = n') (M : Mem) (T o : Nat) : ∀ k, lv ad (tkM ad M T o) k = if k < 22 then mi M (ad T) (o + k) else lv ad M k := by
  intro k
  unfold tkM
  by_cases e : k < 22
  · rw [if_pos e]
    have d : ∀ a b, a ≠ b → ¬ ad a = ad b := fun a b h z => h (hI _ _ z)
    by_cases g0 : k = 0
    · subst g0
      show mi _ (ad 0) 2 = _
      rw [mi_upR, if_neg (fun z => d _ _ (by omega) z.1), mi_upR, if_neg (fun z => d _ _ (by omega) z.1), mi_upR, if_neg (fun z => d _ _ (by omega) z.1), mi_wi, if_neg (by omega), mi_wi, if_pos ⟨rfl, rfl⟩]
      rfl
    by_cases g1 : k = 1
    · subst g1
      show mi _ (ad 0) 3 = _
      rw [mi_upR, if_neg (fun z => d _ _ (by omega) z.1), mi_upR, if_neg (fun z => d _ _ (by omega) z.1), mi_upR, if_neg (fun z => d _ _ (by omega) z.1), mi_wi, if_pos ⟨rfl, rfl⟩]
    by_cases g2 : k < 8
    · obtain ⟨i, rfl⟩ : ∃ i, k = 2 + i := ⟨k - 2, by omega⟩
      rw [lv_kn (by omega), mi_upR, if_neg (fun z => d _ _ (by omega) z.1), mi_upR, if_neg (fun z => d _ _ (by omega) z.1), mi_upR, if_pos ⟨rfl, by omega, by omega⟩, Nat.sub_zero, Nat.add_assoc]
    by_cases g3 : k < 14
    · obtain ⟨i, rfl⟩ : ∃ i, k = 8 + i := ⟨k - 8, by omega⟩
      rw [lv_pl (by omega), mi_upR, if_neg (fun z => d _ _ (by omega) z.1), mi_upR, if_pos ⟨rfl, by omega, by omega⟩, Nat.sub_zero, Nat.add_assoc]
    obtain ⟨i, rfl⟩ : ∃ i, k = 14 + i := ⟨k - 14, by omega⟩
    rw [lv_st (by omega), mi_upR, if_pos ⟨rfl, by omega, by omega⟩, Nat.sub_zero, Nat.add_assoc]
  · rw [if_neg e]
    exact (((StM_wi hI (by omega)).tr ((StM_wi hI (by omega)).tr ((StM_upR hI (by omega)).tr ((StM_upR hI (by omega)).tr (StM_upR hI (by omega)))))).lv : ∀ k, 22 ≤ k → _) k (by omega)
theorem St_tk (hI : ∀ n n', ad n = ad n' → n = n') (M : Mem) (T o : Nat) : StM ad M (tkM ad M T o) := (StM_wi hI (by omega)).tr ((StM_wi hI (by omega)).tr ((StM_upR hI (by omega)).tr ((StM_upR hI (by omega)).tr (StM_upR hI (by omega)))))
theorem undo9_sp (hN : Nm E x m ad) (ho : okH h) (hu : 0 < oU h) (hb : IB (lv ad M) h) : ∃ M2, f_X9_undo E M m = some (nI (sT (oL h (oU h - 1))), M2) ∧ IB (lv ad M2) (backS h) ∧ Kp ad M M2 ∧ M2.2 = M.2 ∧ (∀ n, 50 ≤ n → ∀ k, mi M2 (ad n) k = mi M (ad n) k) ∧ ∀ k, mi M2 (ad 1) k = mi M (ad 1) k := by
  have hI := hN.2.2.1
  have e0 := hN.1
  subst e0
  have hu8 := ho.2.2.1
  obtain ⟨u, hu1⟩ : ∃ u, oU h = u + 1 := ⟨oU h - 1, by omega⟩
  unfold f_X9_undo
  rw [show mi M (ad 0) 21 = nI (oU h) from hb.2.2.2.2.1, if_neg (nI_ne0 hu (by omega)), hu1, nI_pred, mi_wi, if_pos ⟨rfl, rfl⟩, n_20 hN, show (22 : Int32) * nI u = nI (22 * u) from pk_mul 22 u, takes_eq hN (by omega) (by omega) (by decide), Option.bind_some, Nat.add_sub_cancel]
  have c1 : ∀ n k, n ≠ 0 → mi (wi M (ad 0) 21 (nI u)) (ad n) k = mi M (ad n) k := fun n k hn => by rw [mi_wi, if_neg (fun z => hn (hI _ _ z.1))]
  have st := St_tk hI (wi M (ad 0) 21 (nI u)) 20 (22 * u)
  have bs := hb.2.2.2.2.2.1 u (by omega)
  have blk : ∀ i, i < 22 → lv ad (tkM ad (wi M (ad 0) 21 (nI u)) 20 (22 * u)) (0 + i) = lv ad M (105 + 22 * u + i) := fun i hi => by rw [lv_tk hI, Nat.zero_add, if_pos hi, c1 20 _ (by omega), Nat.add_assoc, lv_ah]
  have ms := (ML_BS ho.1.1).mp (BS_sh ho.1.1 blk bs)
  refine ⟨_, ?_, ?_, (Kp_wi hI (by omega)).tr (Kp_St st), st.2.2, fun n hn k => (st.1 n (by omega) (by omega) (by omega) (by omega) k).trans (c1 n k (by omega)), fun k => (st.1 1 (by omega) (by omega) (by omega) (by omega) k).trans (c1 1 k (by omega))⟩
  · rw [ms.1]
  · obtain ⟨a1, a2, a3, a4, a5, a6, a7, a8, a9, b1, b2, b3⟩ := hb
    have g : ∀ k, 22 ≤ k → k ≠ 26 → lv ad (tkM ad (wi M (ad 0) 21 (nI u)) 20 (22 * u)) k = lv ad M k := fun k h1 h2 => by
      rw [lv_tk hI, if_neg (by omega)]
      by_cases e : k < 105
      · exact lv_ne26 (fun n h1 h2 k => c1 n k h1) (fun k hk => by rw [mi_wi, if_neg (fun z => hk z.2)]) k e h2
      · obtain ⟨i, rfl⟩ : ∃ i, k = 105 + i := ⟨k - 105, by omega⟩
        rw [lv_ah, lv_ah, c1 20 _ (by omega)]
    have hA := ho.2.2.2.2.1
    have hB := ho.2.2.2.2.2.1
    have hC := ho.2.2.2.2.2.2.1
    have hp := ho.1.1
    refine ⟨(g _ (by omega) (by omega)).trans a1, fun i hi => ?_, fun i hi => ?_, ?_, ?_, fun j hj => ?_, (g _ (by omega) (by omega)).trans a7, (g _ (by omega) (by omega)).trans a8, (g _ (by omega) (by omega)).trans a9, fun k hk => ?_, fun k hk => ?_, fun k hk => ?_⟩
    · have hi : i < oP h := hi
      exact (g _ (by omega) (by omega)).trans (a2 i hi)
    · have hi : i < oP h := hi
      exact (g _ (by omega) (by omega)).trans (a3 i hi)
    · show BS _ 0 (oP h) (oL h (oU h - 1))
      rw [hu1, Nat.add_sub_cancel]
      exact BS_sh hp blk bs
    · show lv ad (tkM ad (wi M (ad 0) 21 (nI u)) 20 (22 * u)) 26 = nI (oU h - 1)
      rw [lv_tk hI, if_neg (by omega), hu1, Nat.add_sub_cancel]
      show mi (wi M (ad 0) 21 (nI u)) (ad 0) 21 = _
      rw [mi_wi, if_pos ⟨rfl, rfl⟩]
    · have hj : j < oU h - 1 := hj
      exact BS_sh hp (fun i hi => g _ (by omega) (by omega)) (a6 j (by omega))
    · have hk : k < 3 * oA h := hk
      exact (g _ (by omega) (by omega)).trans (b1 k hk)
    · have hk : k < 4 * oB h := hk
      exact (g _ (by omega) (by omega)).trans (b2 k hk)
    · have hk : k < 4 * oC h := hk
      exact (g _ (by omega) (by omega)).trans (b3 k hk)
end Past39
