/-! minutes gone through beside -/
section Al45
variable {E : Env1} {x m : Nat} {ad : Nat → Nat} {M M1 M2 : Mem} {h h' : Ho} {pi pi' : Nat → Nat} {p H : Nat} {s : Sd}
/-- the stand laid aside comes back -/
theorem aside_back (hN : Nm E (ad 50) (ad 0) ad) (ho : okH h) {M Mb : Mem} (hb : IB (lv ad M) h) (st : StM ad (upR M (ad 22) 0 22 (lv ad M)) Mb) : IB (lv ad (tkM ad Mb 22 0)) h ∧ Mo ad M (tkM ad Mb 22 0) := by
  have hI := hN.2.2.1
  have e : ∀ k, lv ad (tkM ad Mb 22 0) k = lv ad M k := by
    intro k
    rw [lv_tk hI]
    by_cases hk : k < 22
    · rw [if_pos hk, Nat.zero_add, st.1 22 (by omega) (by omega) (by omega) (by omega), mi_upR, if_pos ⟨rfl, by omega, by omega⟩, Nat.sub_zero]
    · rw [if_neg hk, st.lv k (by omega)]
      exact lv_same (fun j hj => by rw [mi_upR, if_neg (fun z => by have := hI _ _ z.1; omega)]) (fun n hn j => by rw [mi_upR, if_neg (fun z => by have := hI _ _ z.1; omega)]) k (by omega)
  refine ⟨by rw [show lv ad (tkM ad Mb 22 0) = lv ad M from funext e]; exact hb, (Mo_upR hI (by omega)).tr ((Mo_st st).tr (Mo_st (St_tk hI _ _ _)))⟩
def hearR (s : Sd) (k : Nat) : Nat → Nat → Nat → Int32
  | 0, _, _ => -1
  | f + 1, j, v => if v.testBit k then nI j else hearR s k f (j + 1) (told s v)
theorem hears8 (hN : Nm E (ad 50) (ad 0) ad) (hS : SN E ad (100 + 12)) (hH : HN E ad 100) {k : Nat} {v2 : Int32} (hk : k < 8) (ho : okS p s) (c : CS ad M (100 + 12) s) : ∀ f j v, j ≤ 61 → 61 - j < f → v < 256 → f_X8_hears_L41 E f M (ad 50) (nI k) (nI v) (nI j) = some (hearR s k (61 - j) j v, M) := by
  intro f
  induction f with
  | zero => intro j v _ h; omega
  | succ f ih =>
    intro j v hj hf hv
    show b_X8_hears_L41 E (f_X8_hears_L41 E f) M (ad 50) (nI k) (nI v) (nI j) = _
    unfold b_X8_hears_L41
    by_cases e : j = 61
    · subst e
      rw [if_pos (by decide)]
      rfl
    · rw [if_neg (show ¬ (60 : Int32) < nI j from nI_nlt (a := 60) (b := j) (by omega) (by omega)), n_100 hN, hH.2.2.1, toldOn_eq hS hv ho.2.1 ho.2.2.1 c.1 c.2.2.2.1, Option.bind_some, nI_1]
      obtain ⟨d, hd⟩ : ∃ d, 61 - j = d + 1 := ⟨61 - j - 1, by omega⟩
      rw [hd]
      unfold hearR
      simp only [bitN (show v < 2 ^ 31 by omega) (show k < 32 by omega)]
      cases v.testBit k
      · rw [if_neg (by decide), if_neg (by decide), ih (j + 1) (told s v) (by omega) (by omega) (told_lt hv), show 61 - (j + 1) = d by omega]
      · rw [if_pos rfl, if_pos rfl]
theorem told_pass (s : Sd) (v : Nat) : told (passS s) v = told s v := rfl
theorem hearR_pass (s : Sd) (k : Nat) : ∀ f j v, hearR (passS s) k f j v = hearR s k f j v := by
  intro f
  induction f with
  | zero => intro j v; rfl
  | succ f ih =>
    intro j v
    unfold hearR
    split
    · rfl
    · exact ih _ _
theorem hears9 (hN : Nm E (ad 50) (ad 0) ad) (hp : p ≤ 6) {i k : Nat} (hi : i < p) (hk : k < 8) : ∀ f j (M : Mem) (s : Sd), j ≤ 60 → 60 - j < f → okS p s → sT s + (60 - j) < 20000 → mi M (ad 0) 1 = nI p → ML ad M p s → ∃ Mb, f_X9_hears_L31 E f M (ad 0) (nI i) (nI k) (nI j) = some (hearR s k (61 - j) j (sN s i), tkM ad Mb 22 0) ∧ StM ad M Mb := by
  intro f
  induction f with
  | zero => intro j M s _ h; omega
  | succ f ih =>
    intro j M s hj hf ho ht hm c
    show ∃ Mb, b_X9_hears_L31 E (f_X9_hears_L31 E f) M (ad 0) (nI i) (nI k) (nI j) = _ ∧ _
    unfold b_X9_hears_L31
    have hv := ho.2.2.2.1 i
    have e60 : f_X9_hears_L60 E M (ad 0) (nI i) (nI k) (nI j) = some (if (sN s i).testBit k then nI j else -1, tkM ad M 22 0) := by
      unfold f_X9_hears_L60
      dsimp only [nm]
      rw [gd_nI (by omega) (by decide), ix_nI (by omega), n_10 hN, c.2.2.1 i hi, has_eq (by omega) (by omega), n_22 hN, ← nI_0, takes_eq hN (by omega) (by omega) (by decide), Option.bind_some]
      cases (sN s i).testBit k <;> rfl
    obtain ⟨d, hd⟩ : ∃ d, 61 - j = d + 1 := ⟨61 - j - 1, by omega⟩
    rw [hd]
    unfold hearR
    by_cases e : j = 60
    · rw [if_pos (show (60 : Int32) ≤ nI j from nI_le (a := 60) (by omega) (by omega)), e60, show d = 0 by omega]
      exact ⟨M, rfl, StM.rf⟩
    · rw [if_neg (show ¬ (60 : Int32) ≤ nI j from nI_ge (b := 60) (by omega) (by decide)), gd_nI (by omega) (by decide), ix_nI (by omega), n_10 hN, c.2.2.1 i hi, has_eq (by omega) (by omega), e60]
      cases hbt : (sN s i).testBit k
      · rw [if_pos (by decide)]
        obtain ⟨Ma, ea, ca, oa⟩ := passes_sp hN hp ho hm c
        rw [ea, Option.bind_some, nI_1]
        obtain ⟨Mb, eb, ob⟩ := ih (j + 1) Ma (passS s) (by omega) (by omega) (okS_pass ho (by omega)) (by show sT s + 1 + (60 - (j + 1)) < 20000; omega) ((oa.2.1 1 (by omega) (by omega)).trans hm) ca
        refine ⟨Mb, ?_, oa.tr ob⟩
        rw [eb, hearR_pass, show 61 - (j + 1) = d by omega]
        rfl
      · rw [if_neg (by decide)]
        exact ⟨M, rfl, StM.rf⟩
theorem ok_hears (hI : Inv E x m M) : al_hears Inv E x m M := by
  intro a1 a2
  obtain ⟨ad, h, pi, hN, ho, hc, hb, k1, k2, k3, k4, k5⟩ := id hI
  obtain ⟨rfl, rfl⟩ : m = ad 0 ∧ x = ad 50 := ⟨hN.1.symm, hN.2.1.symm⟩
  have r := RO_of ho.1.1 hb
  have hH := hn_of hN (H := 100) (Or.inl rfl)
  have hS := sn_of hN (H := 100) (Or.inl rfl)
  have hT : sT (oS h) < 2 ^ 31 := by have := ho.2.1; omega
  have hp : oP h ≤ 6 := ho.1.1
  have hI' := hN.2.2.1
  have hP : ∀ j, j < 8 → SN E ad (100 + 16 + 4 * j) := fun j hj => (sp_of hN (H := 100) (Or.inl rfl) hj).1
  by_cases g : inP (oP h) a1
  · by_cases gs : (0 : Int32) ≤ a2 ∧ a2 ≤ 7
    · obtain ⟨i, hi, e1⟩ := inP_ex hp g
      have h6 : i < 6 := Nat.lt_of_lt_of_le hi hp
      obtain ⟨k, hk, e2⟩ := rg (n := 7) (by decide) gs
      have st0 : mi (upR M (ad 22) 0 22 (lv ad M)) (ad 0) 1 = nI (oP h) := by rw [mi_upR, if_neg (fun z => by have := hI' _ _ z.1; omega)]; exact r.1
      have ml0 : ML ad (upR M (ad 22) 0 22 (lv ad M)) (oP h) (oS h) := ⟨by rw [mi_upR, if_neg (fun z => by have := hI' _ _ z.1; omega)]; exact r.2.2.2.1, by rw [mi_upR, if_neg (fun z => by have := hI' _ _ z.1; omega)]; exact r.2.2.2.2.1, fun i hi => by rw [mi_upR, if_neg (fun z => by have := hI' _ _ z.1; omega)]; exact r.2.2.2.2.2.1 i hi, fun i hi => by rw [mi_upR, if_neg (fun z => by have := hI' _ _ z.1; omega)]; exact r.2.2.2.2.2.2.1 i hi, fun i hi => by rw [mi_upR, if_neg (fun z => by have := hI' _ _ z.1; omega)]; exact r.2.2.2.2.2.2.2 i hi⟩
      obtain ⟨Mb, eb, ob⟩ := hears9 hN hp hi (show k < 8 by omega) FU 0 _ (oS h) (by omega) (by unfold FU; omega) ho.1.2.2.2 (by have := ho.2.1; omega) st0 ml0
      obtain ⟨b2, m2⟩ := aside_back hN ho hb ob
      refine fin hN k1 k2 k3 k4 k5 ho (M1 := M) ?_ Cl.rf hc (r := hearR (oS h) k 61 0 (sN (oS h) i)) ?_ m2 b2
      · unfold f_X8_hears
        dsimp only [nm]
        rw [n_100 hN, hasP_t hp hc.1.1 g, if_neg I10, st8_t gs, if_neg I10, e1, e2, gd_nI h6 (by decide), ix_nI (by omega), hH.2.2.1, hS.2.1, hc.1.2.2.2.2.1 i h6]
        have := hears8 (v2 := 0) hN hS hH (show k < 8 by omega) ho.1.2.2.2 hc.1.2.2.2 FU 0 (sN (oS h) i) (by omega) (by unfold FU; omega) (ho.1.2.2.2.2.2.2.1 i)
        rw [nI_0] at this
        exact this
      · unfold f_X9_hears
        rw [one_t r.1 g, if_neg I10, st9_t gs, if_neg I10, e1, e2, n_22 hN, ← nI_0, lays_eq hN (T := 22) (by omega) (by omega) (by decide), Option.bind_some, eb]
    · exact fin_bad hN ho hc hb k1 k2 k3 k4 k5 (by unfold f_X8_hears; rw [n_100 hN, hasP_t hp hc.1.1 g, if_neg I10, st8_f gs, if_pos I00]; rfl) (fun M1 u => by unfold f_X9_hears; rw [one_t ((u 0 (by decide) 1).trans r.1) g, if_neg I10, st9_f gs, if_pos I00]; rfl)
  · exact fin_bad hN ho hc hb k1 k2 k3 k4 k5 (by unfold f_X8_hears; rw [n_100 hN, hasP_f hc.1.1 g, if_pos I00]; rfl) (fun M1 u => by unfold f_X9_hears; rw [one_f ((u 0 (by decide) 1).trans r.1) g, if_pos I00]; rfl)
/-! a name later -/
def toldK (s : Sd) : Nat → Nat → Nat
  | 0, v => v
  | n + 1, v => toldK s n (told s v)
def passK : Nat → Sd → Sd
  | 0, s => s
  | n + 1, s => passK n (passS s)
theorem sN_passK (i : Nat) : ∀ n (s : Sd), sN (passK n s) i = toldK s n (sN s i) := by
  intro n
  induction n with
  | zero => intro s; rfl
  | succ n ih =>
    intro s
    show sN (passK n (passS s)) i = toldK s n (told s (sN s i))
    rw [ih]
    have : ∀ n v, toldK (passS s) n v = toldK s n v := by
      intro n
      induction n with
      | zero => intro v; rfl
      | succ n ih2 => intro v; exact ih2 _
    exact this _ _
theorem toldK_lt (s : Sd) : ∀ n v, v < 256 → toldK s n v < 256 := by
  intro n
  induction n with
  | zero => intro v h; exact h
  | succ n ih => intro v h; exact ih _ (told_lt h)
theorem okS_passK : ∀ n (s : Sd), okS p s → sT s + n < 20000 → okS p (passK n s) := by
  intro n
  induction n with
  | zero => intro s h _; exact h
  | succ n ih => intro s h ht; exact ih _ (okS_pass h (by omega)) (by show sT s + 1 + n < 20000; omega)
theorem sT_passK : ∀ n (s : Sd), sT (passK n s) = sT s + n := by
  intro n
  induction n with
  | zero => intro s; rfl
  | succ n ih => intro s; show sT (passK n (passS s)) = _; rw [ih]; show sT s + 1 + n = _; omega
theorem then8 (hN : Nm E (ad 50) (ad 0) ad) (hS : SN E ad (100 + 12)) (hH : HN E ad 100) {N : Nat} (hN6 : N ≤ 60) (ho : okS p s) (c : CS ad M (100 + 12) s) : ∀ f j v, j ≤ N → N - j < f → v < 256 → f_X8_then_L44 E f M (ad 50) (nI N) (nI v) (nI j) = some (nI (toldK s (N - j) v), M) := by
  intro f
  induction f with
  | zero => intro j v _ h; omega
  | succ f ih =>
    intro j v hj hf hv
    show b_X8_then_L44 E (f_X8_then_L44 E f) M (ad 50) (nI N) (nI v) (nI j) = _
    unfold b_X8_then_L44
    by_cases e : j = N
    · subst e
      rw [if_pos (nI_le (Nat.le_refl _) (by omega)), Nat.sub_self]
      rfl
    · rw [if_neg (nI_ge (a := j) (b := N) (by omega) (by omega)), n_100 hN, hH.2.2.1, toldOn_eq hS hv ho.2.1 ho.2.2.1 c.1 c.2.2.2.1, Option.bind_some, nI_1, ih (j + 1) (told s v) (by omega) (by omega) (told_lt hv)]
      obtain ⟨d, hd⟩ : ∃ d, N - j = d + 1 := ⟨N - j - 1, by omega⟩
      rw [hd, show N - (j + 1) = d by omega]
      rfl
theorem goesOn_L (hN : Nm E (ad 50) (ad 0) ad) (hp : p ≤ 6) (N : Nat) (hN6 : N ≤ 99) : ∀ f j (M : Mem) (s : Sd), j ≤ N → N - j < f → okS p s → sT s + (N - j) < 20000 → mi M (ad 0) 1 = nI p → ML ad M p s → ∃ Mb, f_X9_goesOn_L2 E f M (ad 0) (nI N) (nI j) = some Mb ∧ ML ad Mb p (passK (N - j) s) ∧ StM ad M Mb := by
  intro f
  induction f with
  | zero => intro j M s _ h; omega
  | succ f ih =>
    intro j M s hj hf ho ht hm c
    show ∃ Mb, b_X9_goesOn_L2 E (f_X9_goesOn_L2 E f) M (ad 0) (nI N) (nI j) = _ ∧ _
    unfold b_X9_goesOn_L2
    by_cases e : j = N
    · subst e
      rw [if_pos (nI_le (Nat.le_refl _) (by omega)), Nat.sub_self]
      exact ⟨M, rfl, c, StM.rf⟩
    · rw [if_neg (nI_ge (a := j) (b := N) (by omega) (by omega))]
      obtain ⟨Ma, ea, ca, oa⟩ := passes_sp hN hp ho hm c
      rw [ea, Option.bind_some, nI_1]
      obtain ⟨Mb, eb, cb, ob⟩ := ih (j + 1) Ma (passS s) (by omega) (by omega) (okS_pass ho (by omega)) (by show sT s + 1 + (N - (j + 1)) < 20000; omega) ((oa.2.1 1 (by omega) (by omega)).trans hm) ca
      obtain ⟨d, hd⟩ : ∃ d, N - j = d + 1 := ⟨N - j - 1, by omega⟩
      rw [show N - (j + 1) = d by omega] at cb
      rw [hd]
      exact ⟨Mb, eb, cb, oa.tr ob⟩
theorem goesOn_sp (hN : Nm E (ad 50) (ad 0) ad) (hp : p ≤ 6) {N : Nat} (hN6 : N ≤ 99) (ho : okS p s) (ht : sT s + N < 20000) (hm : mi M (ad 0) 1 = nI p) (c : ML ad M p s) : ∃ Mb, f_X9_goesOn E M (ad 0) (nI N) = some Mb ∧ ML ad Mb p (passK N s) ∧ StM ad M Mb := by
  unfold f_X9_goesOn
  exact goesOn_L hN hp N hN6 FU 0 M s (by omega) (by unfold FU; omega) ho ht hm c
theorem ML_up22 (hI : ∀ n n', ad n = ad n' → n = n') (v : Nat → Int32) (c : ML ad M p s) : ML ad (upR M (ad 22) 0 22 v) p s := ⟨by rw [mi_upR, if_neg (fun z => by have := hI _ _ z.1; omega)]; exact c.1, by rw [mi_upR, if_neg (fun z => by have := hI _ _ z.1; omega)]; exact c.2.1, fun i hi => by rw [mi_upR, if_neg (fun z => by have := hI _ _ z.1; omega)]; exact c.2.2.1 i hi, fun i hi => by rw [mi_upR, if_neg (fun z => by have := hI _ _ z.1; omega)]; exact c.2.2.2.1 i hi, fun i hi => by rw [mi_upR, if_neg (fun z => by have := hI _ _ z.1; omega)]; exact c.2.2.2.2 i hi⟩
theorem ok_then (hI : Inv E x m M) : al_then Inv E x m M := by
  intro a1 a2
  obtain ⟨ad, h, pi, hN, ho, hc, hb, k1, k2, k3, k4, k5⟩ := id hI
  obtain ⟨rfl, rfl⟩ : m = ad 0 ∧ x = ad 50 := ⟨hN.1.symm, hN.2.1.symm⟩
  have r := RO_of ho.1.1 hb
  have hH := hn_of hN (H := 100) (Or.inl rfl)
  have hS := sn_of hN (H := 100) (Or.inl rfl)
  have hT : sT (oS h) < 2 ^ 31 := by have := ho.2.1; omega
  have hp : oP h ≤ 6 := ho.1.1
  have hI' := hN.2.2.1
  have hP : ∀ j, j < 8 → SN E ad (100 + 16 + 4 * j) := fun j hj => (sp_of hN (H := 100) (Or.inl rfl) hj).1
  by_cases g : inP (oP h) a1
  · by_cases g2 : (0 : Int32) ≤ a2 ∧ a2 ≤ 60
    · obtain ⟨i, hi, e1⟩ := inP_ex hp g
      have h6 : i < 6 := Nat.lt_of_lt_of_le hi hp
      obtain ⟨n, hn, e2⟩ := rg (n := 60) (by decide) g2
      have st0 : mi (upR M (ad 22) 0 22 (lv ad M)) (ad 0) 1 = nI (oP h) := by rw [mi_upR, if_neg (fun z => by have := hI' _ _ z.1; omega)]; exact r.1
      obtain ⟨Mb, eb, cb, ob⟩ := goesOn_sp hN hp (show n ≤ 99 by omega) ho.1.2.2.2 (by have := ho.2.1; omega) st0 (ML_up22 hI' (lv ad M) r.2.2.2)
      obtain ⟨b2, m2⟩ := aside_back hN ho hb ob
      refine fin hN k1 k2 k3 k4 k5 ho (M1 := M) ?_ Cl.rf hc (r := nI (toldK (oS h) n (sN (oS h) i))) ?_ m2 b2
      · unfold f_X8_then
        dsimp only [nm]
        rw [n_100 hN, hasP_t hp hc.1.1 g, if_neg I10, wi_t g2, if_neg I10, e1, e2, gd_nI h6 (by decide), ix_nI (by omega), hH.2.2.1, hS.2.1, hc.1.2.2.2.2.1 i h6]
        have := then8 hN hS hH hn ho.1.2.2.2 hc.1.2.2.2 FU 0 (sN (oS h) i) (by omega) (by unfold FU; omega) (ho.1.2.2.2.2.2.2.1 i)
        rw [nI_0] at this
        exact this
      · unfold f_X9_then
        rw [one_t r.1 g, if_neg I10, in_t g2, if_neg I10, e1, e2, n_22 hN, ← nI_0, lays_eq hN (T := 22) (by omega) (by omega) (by decide), Option.bind_some, eb, Option.bind_some, gd_nI h6 (by decide), takes_eq hN (by omega) (by omega) (by decide), Option.bind_some, ix_nI (by omega), n_10 hN, cb.2.2.1 i hi, sN_passK]
    · exact fin_bad hN ho hc hb k1 k2 k3 k4 k5 (by unfold f_X8_then; rw [n_100 hN, hasP_t hp hc.1.1 g, if_neg I10, wi_f g2, if_pos I00]; rfl) (fun M1 u => by unfold f_X9_then; rw [one_t ((u 0 (by decide) 1).trans r.1) g, if_neg I10, in_f g2, if_pos I00]; rfl)
  · exact fin_bad hN ho hc hb k1 k2 k3 k4 k5 (by unfold f_X8_then; rw [n_100 hN, hasP_f hc.1.1 g, if_pos I00]; rfl) (fun M1 u => by unfold f_X9_then; rw [one_f ((u 0 (by decide) 1).trans r.1) g, if_pos I00]; rfl)
end Al45
