/-! evenings -/
section Al47
variable {E : Env1} {x m : Nat} {ad : Nat → Nat} {M M1 M2 : Mem} {h h' : Ho} {pi pi' : Nat → Nat} {p H H' : Nat} {s : Sd}
theorem nm_v {α β : Type} (v : α) (F : α → β) : nm v F = F v := rfl
def rnd (v : Nat) : Nat := (v * 1103515245 + 12345) % 2147483648
theorem rnd_lt (v : Nat) : rnd v < 2147483648 := Nat.mod_lt _ (by decide)
theorem rnd_eq {v : Nat} (hv : v < 2147483648) : ((lN v * (1103515245 : Int64)) + (12345 : Int64)) - ((lN v * (1103515245 : Int64)) + (12345 : Int64)) / (2147483648 : Int64) * (2147483648 : Int64) = lN (rnd v) := by
  have e : (lN v * (1103515245 : Int64)) + (12345 : Int64) = lN (v * 1103515245 + 12345) := by
    rw [show (1103515245 : Int64) = lN 1103515245 from rfl, show (12345 : Int64) = lN 12345 from rfl, lN_mul, lN_add]
  rw [e]
  have hb : v * 1103515245 + 12345 < 2 ^ 63 := by
    have : v * 1103515245 ≤ 2147483648 * 1103515245 := Nat.mul_le_mul_right _ (by omega)
    omega
  exact pk_lRem (b := 2147483648) hb (by decide) (by decide)
theorem rnd_i {v d c : Nat} (hv : v < 2147483648) (hd : 0 < d) (hd2 : d < 2 ^ 63) (hc : 0 < c) (hc2 : c < 2 ^ 63) : ((lN v / lN d) - (lN v / lN d) / lN c * lN c).toInt32 = nI (v / d % c) := by
  have hvd : v / d < 2 ^ 63 := Nat.lt_of_le_of_lt (Nat.div_le_self _ _) (by omega)
  rw [pk_lDiv (by omega) hd hd2, pk_lRem hvd hc hc2, lN_i]
def okX (v : Nat) : Prop := v < 2147483648
def rI (v : Nat) : Nat := rnd v / 65536 % 6
def rK (v : Nat) : Nat := rnd v / 1048576 % 8
theorem rI_lt (v : Nat) : rI v < 6 := Nat.mod_lt _ (by decide)
theorem rK_lt (v : Nat) : rK v < 8 := Nat.mod_lt _ (by decide)
theorem okX_r (v : Nat) : okX (rnd v) := rnd_lt v
theorem rI_eq (v : Nat) : ((lN (rnd v) / (65536 : Int64)) - (lN (rnd v) / (65536 : Int64)) / (6 : Int64) * (6 : Int64)).toInt32 = nI (rI v) := rnd_i (d := 65536) (c := 6) (rnd_lt v) (by decide) (by decide) (by decide) (by decide)
theorem rK_eq (v : Nat) : ((lN (rnd v) / (1048576 : Int64)) - (lN (rnd v) / (1048576 : Int64)) / (8 : Int64) * (8 : Int64)).toInt32 = nI (rK v) := rnd_i (d := 1048576) (c := 8) (rnd_lt v) (by decide) (by decide) (by decide) (by decide)
theorem rnd_x {v : Nat} (hv : okX v) : ((lN v * (1103515245 : Int64)) + (12345 : Int64)) - ((lN v * (1103515245 : Int64)) + (12345 : Int64)) / (2147483648 : Int64) * (2147483648 : Int64) = lN (rnd v) := rnd_eq hv
theorem inP_n {p i : Nat} (hp : p ≤ 6) (h6 : i < 6) (hi : ¬ i < p) : ¬ inP p (nI i) := fun z => by
  obtain ⟨j, h1, h2⟩ := inP_ex hp z
  have := (nI_eq (by omega) (by omega)).mp h2
  omega
/-- the stand behind n minutes of an evening -/
def evS (h : Ho) : Nat → Nat → Sd → Sd
  | 0, _, s => s
  | n + 1, v, s => evS h n (rnd v) (if rI v < oP h then meetS (withS h s) (rI v) (rK v) else passS s)
theorem okS_ev (ho : okP h) : ∀ n v (s : Sd), okS (oP h) s → sT s + n < 20000 → okS (oP h) (evS h n v s) := by
  intro n
  induction n with
  | zero => intro v s h _; exact h
  | succ n ih =>
    intro v s hs ht
    unfold evS
    refine ih _ _ ?_ ?_
    · split
      · rename_i hi
        exact okS_meet (h := withS h s) (okP_withS ho hs) hi (rK_lt v) (by show sT s + 1 < 20000; omega)
      · exact okS_pass hs (by omega)
    · split
      · unfold meetS
        split
        · show sT s + 1 + n < 20000; omega
        · show sT s + 1 + n < 20000; omega
      · show sT s + 1 + n < 20000; omega
theorem sT_meet (h : Ho) (i k : Nat) : sT (meetS h i k) = sT (oS h) + 1 := by
  unfold meetS
  split <;> rfl
theorem ev8 (hN : Nm E (ad 50) (ad 0) ad) (ho : okP h) (N : Nat) (hN6 : N ≤ 60) : ∀ f j (M : Mem) v (s : Sd), j ≤ N → N - j < f → okX v → okS (oP h) s → sT s + (N - j) < 20000 → CO ad M 200 (withS h s) → ∃ M1, f_X8_evenings_L44 E f M (ad 50) (nI N) (lN v) (nI j) = some (nI (knownAllN (oP h) (evS h (N - j) v s)), M1) ∧ Off ad M M1 200 248 := by
  have hI := hN.2.2.1
  have hH := hn_of hN (H := 200) (Or.inr (Or.inl rfl))
  have hS := sn_of hN (H := 200) (Or.inr (Or.inl rfl))
  have hp : oP h ≤ 6 := ho.1
  intro f
  induction f with
  | zero => intro j M v s _ h; omega
  | succ f ih =>
    intro j M v s hj hf hv hs ht c
    show ∃ M1, b_X8_evenings_L44 E (f_X8_evenings_L44 E f) M (ad 50) (nI N) (lN v) (nI j) = _ ∧ _
    unfold b_X8_evenings_L44
    rw [n_200 hN, hH.2.2.1]
    by_cases e : j = N
    · subst e
      rw [if_pos (nI_le (Nat.le_refl _) (by omega)), Nat.sub_self, knownTogether_eq hS hs c.2.2.2, knownAll_6 hs hp]
      exact ⟨M, rfl, Off.rf⟩
    · rw [if_neg (nI_ge (a := j) (b := N) (by omega) (by omega))]
      rw [nm_v, nm_v]
      rw [rnd_x hv, rI_eq, rK_eq, nI_1]
      obtain ⟨d, hd⟩ : ∃ d, N - j = d + 1 := ⟨N - j - 1, by omega⟩
      have hd' : N - (j + 1) = d := by omega
      rw [hd]
      unfold evS
      have hi6 : rI v < 6 := rI_lt v
      have hk8 : rK v < 8 := rK_lt v
      have hw : okX (rnd v) := okX_r v
      have onext : ∀ (M1 : Mem) (s' : Sd), CS ad M1 (200 + 12) s' → Off ad M M1 (200 + 12) (200 + 16) → CO ad M1 200 (withS h s') := fun M1 s' h1 o => CO_withS (h := withS h s) (fun n h1 h2 k => o.1 n (by omega) k) c h1
      by_cases hi : rI v < oP h
      · rw [hasP_t (H := 200) hp c.1 (inP_i hp hi), if_neg I10, if_pos hi]
        obtain ⟨Ma, ea, ca, oa⟩ := introduce_sp hI hH hS (okP_withS ho hs) hi hk8 c
        rw [ea, Option.bind_some]
        obtain ⟨Mb, eb, ob⟩ := ih (j + 1) Ma (rnd v) _ (by omega) (by omega) hw (okS_meet (h := withS h s) (okP_withS ho hs) hi hk8 (by show sT s + 1 < 20000; omega)) (by rw [sT_meet]; show sT s + 1 + (N - (j + 1)) < 20000; omega) (onext Ma _ ca oa)
        rw [hd'] at eb
        exact ⟨Mb, eb, (oa.mono (by omega) (by omega)).tr ob⟩
      · have hnp : ¬ inP (oP h) (nI (rI v)) := inP_n hp hi6 hi
        rw [hasP_f (H := 200) c.1 hnp, if_pos I00, if_neg hi]
        obtain ⟨Ma, ea, ca, oa⟩ := passMinute_sp hI hS hs c.2.2.2
        rw [ea, Option.bind_some]
        obtain ⟨Mb, eb, ob⟩ := ih (j + 1) Ma (rnd v) _ (by omega) (by omega) hw (okS_pass hs (by omega)) (by show sT s + 1 + (N - (j + 1)) < 20000; omega) (onext Ma _ ca oa)
        rw [hd'] at eb
        exact ⟨Mb, eb, (oa.mono (by omega) (by omega)).tr ob⟩
theorem ev9_b (k : Mem → Nat → Int32 → Int64 → Int32 → Option (Int32 × Mem)) {v j N z : Nat} (hv : okX v) (hj : j < N) (hN6 : N ≤ 60) : b_X9_evenings_L41 E k M z (nI N) (lN v) (nI j) = if f_X9_isOne E M z (nI (rI v)) = 0 then (f_X9_passes E M z).bind fun x9 => k x9 z (nI N) (lN (rnd v)) (nI (j + 1)) else (f_X9_learns E M z (nI (rI v)) (nI (rK v))).bind fun x10 => (f_X9_passes E x10 z).bind fun x11 => k x11 z (nI N) (lN (rnd v)) (nI (j + 1)) := by
  unfold b_X9_evenings_L41
  rw [if_neg (nI_ge (a := j) (b := N) hj (by omega)), nm_v, nm_v, nm_v, rnd_x hv, rI_eq, rK_eq, nI_1]
theorem ev9_in (hN : Nm E (ad 50) (ad 0) ad) (ho : okP h) {i k : Nat} {s : Sd} (hi : i < oP h) (hk8 : k < 8) (hs : okS (oP h) s) (c : RO ad M (withS h s)) : ∃ Ma Mc, f_X9_learns E M (ad 0) (nI i) (nI k) = some Ma ∧ f_X9_passes E Ma (ad 0) = some Mc ∧ RO ad Mc (withS h (meetS (withS h s) i k)) ∧ StM ad M Mc := by
  obtain ⟨Ma, ea, ca, oa⟩ := learns_sp hN (okP_withS ho hs) hi hk8 c
  have ra : RO ad Ma (withS h (learnB (withS h s) i k)) := RO_St (h := withS h s) oa c ca
  obtain ⟨Mc, ec, cc, oc⟩ := passes_sp hN ho.1 (okS_learnB (h := withS h s) (okP_withS ho hs) hi hk8) ra.1 ca
  refine ⟨Ma, Mc, ea, ec, ?_, oa.tr oc⟩
  rw [meetS_eq]
  exact RO_St (h := withS h (learnB (withS h s) i k)) oc ra cc
theorem ev9 (hN : Nm E (ad 50) (ad 0) ad) (ho : okP h) (N : Nat) (hN6 : N ≤ 60) : ∀ f j (M : Mem) v (s : Sd), j ≤ N → N - j < f → okX v → okS (oP h) s → sT s + (N - j) < 20000 → RO ad M (withS h s) → ∃ Mb, f_X9_evenings_L41 E f M (ad 0) (nI N) (lN v) (nI j) = some (nI (knownAllN (oP h) (evS h (N - j) v s)), tkM ad Mb 22 0) ∧ StM ad M Mb := by
  have hp : oP h ≤ 6 := ho.1
  intro f
  induction f with
  | zero => intro j M v s _ h; omega
  | succ f ih =>
    intro j M v s hj hf hv hs ht c
    show ∃ M1, b_X9_evenings_L41 E (f_X9_evenings_L41 E f) M (ad 0) (nI N) (lN v) (nI j) = _ ∧ _
    by_cases e : j = N
    · subst e
      unfold b_X9_evenings_L41
      rw [if_pos (nI_le (Nat.le_refl _) (by omega)), Nat.sub_self, knownAll_eq hN hp hs.2.2.2.1 c.1 c.2.2.2, Option.bind_some, n_22 hN, ← nI_0, takes_eq hN (by omega) (by omega) (by decide)]
      exact ⟨M, rfl, StM.rf⟩
    · rw [ev9_b _ hv (by omega) hN6]
      obtain ⟨d, hd⟩ : ∃ d, N - j = d + 1 := ⟨N - j - 1, by omega⟩
      have hd' : N - (j + 1) = d := by omega
      rw [hd]
      unfold evS
      have hi6 : rI v < 6 := rI_lt v
      have hk8 : rK v < 8 := rK_lt v
      have hw : okX (rnd v) := okX_r v
      by_cases hi : rI v < oP h
      · obtain ⟨Ma, Mc, ea, ec, cc, oc⟩ := ev9_in hN ho hi hk8 hs c
        rw [one_t c.1 (inP_i hp hi), if_neg I10, if_pos hi, ea, Option.bind_some, ec, Option.bind_some]
        obtain ⟨Mb, eb, ob⟩ := ih (j + 1) Mc (rnd v) (meetS (withS h s) (rI v) (rK v)) (by omega) (by omega) hw (okS_meet (h := withS h s) (okP_withS ho hs) hi hk8 (by show sT s + 1 < 20000; omega)) (by rw [sT_meet]; show sT s + 1 + (N - (j + 1)) < 20000; omega) cc
        rw [hd'] at eb
        exact ⟨Mb, eb, oc.tr ob⟩
      · have hnp : ¬ inP (oP h) (nI (rI v)) := inP_n hp hi6 hi
        obtain ⟨Ma, ea, ca, oa⟩ := passes_sp hN hp hs c.1 c.2.2.2
        rw [one_f c.1 hnp, if_pos I00, if_neg hi, ea, Option.bind_some]
        obtain ⟨Mb, eb, ob⟩ := ih (j + 1) Ma (rnd v) (passS s) (by omega) (by omega) hw (okS_pass hs (by omega)) (by show sT s + 1 + (N - (j + 1)) < 20000; omega) (RO_St (h := withS h s) oa c ca)
        rw [hd'] at eb
        exact ⟨Mb, eb, oa.tr ob⟩
theorem ok_evenings (hI : Inv E x m M) : al_evenings Inv E x m M := by
  intro a1 a2
  obtain ⟨ad, h, pi, hN, ho, hc, hb, k1, k2, k3, k4, k5⟩ := id hI
  obtain ⟨rfl, rfl⟩ : m = ad 0 ∧ x = ad 50 := ⟨hN.1.symm, hN.2.1.symm⟩
  have r := RO_of ho.1.1 hb
  have hH := hn_of hN (H := 100) (Or.inl rfl)
  have hS := sn_of hN (H := 100) (Or.inl rfl)
  have hT : sT (oS h) < 2 ^ 31 := by have := ho.2.1; omega
  have hp : oP h ≤ 6 := ho.1.1
  have hI' := hN.2.2.1
  have hP : ∀ j, j < 8 → SN E ad (100 + 16 + 4 * j) := fun j hj => (sp_of hN (H := 100) (Or.inl rfl) hj).1
  by_cases g : (0 : Int32) ≤ a1 ∧ a1 ≤ 999999
  · by_cases g2 : (0 : Int32) ≤ a2 ∧ a2 ≤ 60
    · obtain ⟨v, hv, e1⟩ := rg (n := 999999) (by decide) g
      obtain ⟨n, hn, e2⟩ := rg (n := 60) (by decide) g2
      obtain ⟨Ma, ea, b0, b1, b2, b3, b4, b5⟩ := copyPeople_sp hI' (hn_of hN (H := 200) (Or.inr (Or.inl rfl))) (sn_of hN (H := 200) (Or.inr (Or.inl rfl))) hH hS (by omega) M
      have co : CO ad Ma 200 (withS h (oS h)) := ⟨b0.trans hc.1.1, fun i hi => (b1 i (Nat.lt_of_lt_of_le hi hp)).trans (hc.1.2.1 i hi), fun i hi => (b2 i (Nat.lt_of_lt_of_le hi hp)).trans (hc.1.2.2.1 i hi), CS_CE b3 hc.1.2.2.2⟩
      have ht0 := ho.2.1
      obtain ⟨Mb, eb, ob⟩ := ev8 hN ho.1 n hn FU 0 Ma v (oS h) (by omega) (by unfold FU; omega) (show okX v from by unfold okX; omega) ho.1.2.2.2 (by omega) co
      have cl : Cl ad M Mb := (Cl_off b4 (by omega)).tr (Cl_off ob (by omega))
      have hcb : CH ad Mb 100 h pi := CH_sm ho.2.2.1 (fun n hn k => ⟨(ob.1 n (by omega) k).trans (b4.1 n (by omega) k), (ob.mr _ _).trans (b4.mr _ _)⟩) hc
      have hbb := IB_mu cl.mu hb
      have rb := RO_of hp hbb
      have ro : RO ad (upR Mb (ad 22) 0 22 (lv ad Mb)) (withS h (oS h)) := ⟨by rw [mi_upR, if_neg (fun z => by have := hI' _ _ z.1; omega)]; exact rb.1, fun i hi => by rw [mi_upR, if_neg (fun z => by have := hI' _ _ z.1; omega)]; exact rb.2.1 i hi, fun i hi => by rw [mi_upR, if_neg (fun z => by have := hI' _ _ z.1; omega)]; exact rb.2.2.1 i hi, ML_up22 hI' _ rb.2.2.2⟩
      obtain ⟨Mc, ec, oc⟩ := ev9 hN ho.1 n hn FU 0 _ v (oS h) (by omega) (by unfold FU; omega) (show okX v from by unfold okX; omega) ho.1.2.2.2 (by omega) ro
      obtain ⟨ib, mo⟩ := aside_back hN ho hbb oc
      refine fin hN k1 k2 k3 k4 k5 ho (r := nI (knownAllN (oP h) (evS h n v (oS h)))) ?_ cl hcb ?_ mo ib
      · unfold f_X8_evenings
        rw [wi_t g, if_neg I10, wi_t g2, if_neg I10, n_200 hN, n_100 hN, ea, Option.bind_some, e1, e2, nI_l (by omega), ← nI_0]
        exact eb
      · unfold f_X9_evenings
        rw [in_t g, if_neg I10, in_t g2, if_neg I10, n_22 hN, ← nI_0, lays_eq hN (T := 22) (by omega) (by omega) (by decide), Option.bind_some, e1, e2, nI_l (by omega)]
        exact ec
    · exact fin_bad hN ho hc hb k1 k2 k3 k4 k5 (by unfold f_X8_evenings; rw [wi_t g, if_neg I10, wi_f g2, if_pos I00]; rfl) (fun M1 u => by unfold f_X9_evenings; rw [in_t g, if_neg I10, in_f g2, if_pos I00]; rfl)
  · exact fin_bad hN ho hc hb k1 k2 k3 k4 k5 (by unfold f_X8_evenings; rw [wi_f g, if_pos I00]; rfl) (fun M1 u => by unfold f_X9_evenings; rw [in_f g, if_pos I00]; rfl)
end Al47
