/-! evenings -/
section Al47
variable {E : Env1} {x m : Nat} {ad : Nat → Nat} {M M1 M2 : Mem} {h h' : Ho} {pi pi' : Nat → Nat} {p H H' : Nat} {s : Sd}
def rnd (v : Nat) : Nat := (v * 1103515245 + 12345) % 2147483648
theorem rnd_lt (v : Nat) : rnd v < 2147483648 := Nat.mod_lt _ (by decide)
theorem rnd_eq {v : Nat} (hv : v < 2147483648) : ((lN v * (1103515245 : Int64)) + (12345 : Int64)) - ((lN v * (1103515245 : Int64)) + (12345 : Int64)) / (2147483648 : Int64) * (2147483648 : Int64) = lN (rnd v) := by
  have e : (lN v * (1103515245 : Int64)) + (12345 : Int64) = lN (v * 1103515245 + 12345) := by
    rw [show (1103515245 : Int64) = lN 1103515245 from rfl, show (12345 : Int64) = lN 12345 from rfl, lN_mul, lN_add]
  rw [e]
  have hb : v * 1103515245 + 12345 < 2 ^ 63 := by
    have : v * 1103515245 ≤ 2147483648 * 1103515245 := Nat.mul_le_mul_right _ (by omega)
    omega
  exact pk_lRem (b := 2147483648) hb (by decide) (by decide)
theorem rnd_i {v d c : Nat} (hv : v < 2147483648) (hd : 0 < d) (hd2 : d < 2 ^ 63) (hc : 0 < c) (hc2 : c < 2 ^ 63) : ((lN v / lN d) - (lN v / lN d) / lN c * lN c).toInt32 = nI (v / d % c) := by
  have hvd : v / d < 2 ^ 63 := Nat.lt_of_le_of_lt (Nat.div_le_self _ _) (by omega)
  rw [pk_lDiv (by omega) hd hd2, pk_lRem hvd hc hc2, lN_i]
def okX (v : Nat) : Prop := v < 2147483648
def rI (v : Nat) : Nat := rnd v / 65536 % 6
def rK (v : Nat) : Nat := rnd v / 1048576 % 8
theorem rI_lt (v : Nat) : rI v < 6 := Nat.mod_lt _ (by decide)
theorem rK_lt (v : Nat) : rK v < 8 := Nat.mod_lt _ (by decide)
theorem okX_r (v : Nat) : okX (rnd v) := rnd_lt v
theorem rI_eq (v : Nat) : ((lN (rnd v) / (65536 : Int64)) - (lN (rnd v) / (65536 : Int64)) / (6 : Int64) * (6 : Int64)).toInt32 = nI (rI v) := rnd_i (d := 65536) (c := 6) (rnd_lt v) (by decide) (by decide) (by decide) (by decide)
theorem rK_eq (v : Nat) : ((lN (rnd v) / (1048576 : Int64)) - (lN (rnd v) / (1048576 : Int64)) / (8 : Int64) * (8 : Int64)).toInt32 = nI (rK v) := rnd_i (d := 1048576) (c := 8) (rnd_lt v) (by decide) (by decide) (by decide) (by decide)
theorem rnd_x {v : Nat} (hv : okX v) : ((lN v * (1103515245 : Int64)) + (12345 : Int64)) - ((lN v * (1103515245 : Int64)) + (12345 : Int64)) / (2147483648 : Int64) * (2147483648 : Int64) = lN (rnd v) := rnd_eq hv
theorem inP_n {p i : Nat} (hp : p ≤ 6) (h6 : i < 6) (hi : ¬ i < p) : ¬ inP p (nI i) := fun z => by
  obtain ⟨j, h1, h2⟩ := inP_ex hp z
  have := (nI_eq (by omega) (by omega)).mp h2
  omega
/-- the stand behind n minutes of an evening -/
def evS (h : Ho) : Nat → Nat → Sd → Sd
  | 0, _, s => s
  | n + 1, v, s => evS h n (rnd v) (if rI v < oP h then meetS (withS h s) (rI v) (rK v) else passS s)
theorem okS_ev (ho : okP h) : ∀ n v (s : Sd), okS (oP h) s → sT s + n < 20000 → okS (oP h) (evS h n v s) := by
  intro n
  induction n with
  | zero => intro v s h _; exact h
  | succ n ih =>
    intro v s hs ht
    unfold evS
    refine ih _ _ ?_ ?_
    · split
      · rename_i hi
        exact okS_meet (h := withS h s) (okP_withS ho hs) hi (rK_lt v) (by show sT s + 1 < 20000; omega)
      · exact okS_pass hs (by omega)
    · split
      · unfold meetS
        split
        · show sT s + 1 + n < 20000; omega
        · show sT s + 1 + n < 20000; omega
      · show sT s + 1 + n < 20000; omega
theorem sT_meet (h : Ho) (i k : Nat) : sT (meetS h i k) = sT (oS h) + 1 := by
  unfold meetS
  split <;> rfl
theorem ev8o (hN : Nm E (ad 50) (ad 0) ad) (ho : okP h) (N : Nat) (hN6 : N ≤ 60) : ∀ f j (M : Mem) v (s : Sd), j ≤ N → N - j < f → okX v → okS (oP h) s → sT s + (N - j) < 20000 → CO ad M 200 (withS h s) → ∃ M1, f_X8_evenings_L44 E f M (ad 50) (nI N) (lN v) (nI j) = some (nI (knownAllN (oP h) (evS h (N - j) v s)), M1) ∧ Off ad M M1 200 248 := by
  have hI := hN.2.2.1
  have hH := hn_of hN (H := 200) (Or.inr (Or.inl rfl))
  have hS := sn_of hN (H := 200) (Or.inr (Or.inl rfl))
  have hp : oP h ≤ 6 := ho.1
  intro f
  induction f with
  | zero => intro j M v s _ h; omega
  | succ f ih =>
    intro j M v s hj hf hv hs ht c
    show ∃ M1, b_X8_evenings_L44 E (f_X8_evenings_L44 E f) M (ad 50) (nI N) (lN v) (nI j) = _ ∧ _
    unfold b_X8_evenings_L44
    rw [n_200 hN, hH.2.2.1]
    by_cases e : j = N
    · subst e
      rw [if_pos (nI_le (Nat.le_refl _) (by omega)), Nat.sub_self, knownTogether_eq hS hs c.2.2.2, knownAll_6 hs hp]
      exact ⟨M, rfl, Off.rf⟩
    · rw [if_neg (nI_ge (a := j) (b := N) (by omega) (by omega))]
      sorry
theorem ev8p (hN : Nm E (ad 50) (ad 0) ad) (ho : okP h) (N : Nat) (hN6 : N ≤ 60) : ∀ f j (M : Mem) v (s : Sd), j ≤ N → N - j < f → okX v → okS (oP h) s → sT s + (N - j) < 20000 → CO ad M 200 (withS h s) → ∃ M1, f_X8_evenings_L44 E f M (ad 50) (nI N) (lN v) (nI j) = some (nI (knownAllN (oP h) (evS h (N - j) v s)), M1) ∧ Off ad M M1 200 248 := by
  have hI := hN.2.2.1
  have hH := hn_of hN (H := 200) (Or.inr (Or.inl rfl))
  have hS := sn_of hN (H := 200) (Or.inr (Or.inl rfl))
  have hp : oP h ≤ 6 := ho.1
  intro f
  induction f with
  | zero => intro j M v s _ h; omega
  | succ f ih =>
    intro j M v s hj hf hv hs ht c
    show ∃ M1, b_X8_evenings_L44 E (f_X8_evenings_L44 E f) M (ad 50) (nI N) (lN v) (nI j) = _ ∧ _
    unfold b_X8_evenings_L44
    rw [n_200 hN, hH.2.2.1]
    by_cases e : j = N
    · subst e
      rw [if_pos (nI_le (Nat.le_refl _) (by omega)), Nat.sub_self, knownTogether_eq hS hs c.2.2.2, knownAll_6 hs hp]
      exact ⟨M, rfl, Off.rf⟩
    · rw [if_neg (nI_ge (a := j) (b := N) (by omega) (by omega))]
      dsimp only [nm]
      rw [rnd_x hv, rI_eq, rK_eq, nI_1]
      sorry
theorem ev8a (hN : Nm E (ad 50) (ad 0) ad) (ho : okP h) (N : Nat) (hN6 : N ≤ 60) : ∀ f j (M : Mem) v (s : Sd), j ≤ N → N - j < f → okX v → okS (oP h) s → sT s + (N - j) < 20000 → CO ad M 200 (withS h s) → ∃ M1, f_X8_evenings_L44 E f M (ad 50) (nI N) (lN v) (nI j) = some (nI (knownAllN (oP h) (evS h (N - j) v s)), M1) ∧ Off ad M M1 200 248 := by
  have hI := hN.2.2.1
  have hH := hn_of hN (H := 200) (Or.inr (Or.inl rfl))
  have hS := sn_of hN (H := 200) (Or.inr (Or.inl rfl))
  have hp : oP h ≤ 6 := ho.1
  intro f
  induction f with
  | zero => intro j M v s _ h; omega
  | succ f ih =>
    intro j M v s hj hf hv hs ht c
    show ∃ M1, b_X8_evenings_L44 E (f_X8_evenings_L44 E f) M (ad 50) (nI N) (lN v) (nI j) = _ ∧ _
    unfold b_X8_evenings_L44
    rw [n_200 hN, hH.2.2.1]
    by_cases e : j = N
    · subst e
      rw [if_pos (nI_le (Nat.le_refl _) (by omega)), Nat.sub_self, knownTogether_eq hS hs c.2.2.2, knownAll_6 hs hp]
      exact ⟨M, rfl, Off.rf⟩
    · rw [if_neg (nI_ge (a := j) (b := N) (by omega) (by omega))]
      dsimp only [nm]
      rw [rnd_x hv, rI_eq, rK_eq, nI_1]
      obtain ⟨d, hd⟩ : ∃ d, N - j = d + 1 := ⟨N - j - 1, by omega⟩
      have hd' : N - (j + 1) = d := by omega
      rw [hd]
      unfold evS
      have hi6 : rI v < 6 := rI_lt v
      have hk8 : rK v < 8 := rK_lt v
      have hw : okX (rnd v) := okX_r v
      have onext : ∀ (M1 : Mem) (s' : Sd), CS ad M1 (200 + 12) s' → Off ad M M1 (200 + 12) (200 + 16) → CO ad M1 200 (withS h s') := fun M1 s' h1 o => CO_withS (h := withS h s) (fun n h1 h2 k => o.1 n (by omega) k) c h1
      sorry
theorem ev8b (hN : Nm E (ad 50) (ad 0) ad) (ho : okP h) (N : Nat) (hN6 : N ≤ 60) : ∀ f j (M : Mem) v (s : Sd), j ≤ N → N - j < f → okX v → okS (oP h) s → sT s + (N - j) < 20000 → CO ad M 200 (withS h s) → ∃ M1, f_X8_evenings_L44 E f M (ad 50) (nI N) (lN v) (nI j) = some (nI (knownAllN (oP h) (evS h (N - j) v s)), M1) ∧ Off ad M M1 200 248 := by
  have hI := hN.2.2.1
  have hH := hn_of hN (H := 200) (Or.inr (Or.inl rfl))
  have hS := sn_of hN (H := 200) (Or.inr (Or.inl rfl))
  have hp : oP h ≤ 6 := ho.1
  intro f
  induction f with
  | zero => intro j M v s _ h; omega
  | succ f ih =>
    intro j M v s hj hf hv hs ht c
    show ∃ M1, b_X8_evenings_L44 E (f_X8_evenings_L44 E f) M (ad 50) (nI N) (lN v) (nI j) = _ ∧ _
    unfold b_X8_evenings_L44
    rw [n_200 hN, hH.2.2.1]
    by_cases e : j = N
    · subst e
      rw [if_pos (nI_le (Nat.le_refl _) (by omega)), Nat.sub_self, knownTogether_eq hS hs c.2.2.2, knownAll_6 hs hp]
      exact ⟨M, rfl, Off.rf⟩
    · rw [if_neg (nI_ge (a := j) (b := N) (by omega) (by omega))]
      dsimp only [nm]
      rw [rnd_x hv, rI_eq, rK_eq, nI_1]
      obtain ⟨d, hd⟩ : ∃ d, N - j = d + 1 := ⟨N - j - 1, by omega⟩
      have hd' : N - (j + 1) = d := by omega
      rw [hd]
      unfold evS
      have hi6 : rI v < 6 := rI_lt v
      have hk8 : rK v < 8 := rK_lt v
      have hw : okX (rnd v) := okX_r v
      have onext : ∀ (M1 : Mem) (s' : Sd), CS ad M1 (200 + 12) s' → Off ad M M1 (200 + 12) (200 + 16) → CO ad M1 200 (withS h s') := fun M1 s' h1 o => CO_withS (h := withS h s) (fun n h1 h2 k => o.1 n (by omega) k) c h1
      by_cases hi : rI v < oP h
      · rw [hasP_t (H := 200) hp c.1 (inP_i hp hi), if_neg I10, if_pos hi]
        obtain ⟨Ma, ea, ca, oa⟩ := introduce_sp hI hH hS (okP_withS ho hs) hi hk8 c
        rw [ea, Option.bind_some]
        obtain ⟨Mb, eb, ob⟩ := ih (j + 1) Ma (rnd v) _ (by omega) (by omega) hw (okS_meet (h := withS h s) (okP_withS ho hs) hi hk8 (by show sT s + 1 < 20000; omega)) (by rw [sT_meet]; show sT s + 1 + (N - (j + 1)) < 20000; omega) (onext Ma _ ca oa)
        rw [hd'] at eb
        exact ⟨Mb, eb, (oa.mono (by omega) (by omega)).tr ob⟩
      · sorry
theorem ev8c (hN : Nm E (ad 50) (ad 0) ad) (ho : okP h) (N : Nat) (hN6 : N ≤ 60) : ∀ f j (M : Mem) v (s : Sd), j ≤ N → N - j < f → okX v → okS (oP h) s → sT s + (N - j) < 20000 → CO ad M 200 (withS h s) → ∃ M1, f_X8_evenings_L44 E f M (ad 50) (nI N) (lN v) (nI j) = some (nI (knownAllN (oP h) (evS h (N - j) v s)), M1) ∧ Off ad M M1 200 248 := by
  have hI := hN.2.2.1
  have hH := hn_of hN (H := 200) (Or.inr (Or.inl rfl))
  have hS := sn_of hN (H := 200) (Or.inr (Or.inl rfl))
  have hp : oP h ≤ 6 := ho.1
  intro f
  induction f with
  | zero => intro j M v s _ h; omega
  | succ f ih =>
    intro j M v s hj hf hv hs ht c
    show ∃ M1, b_X8_evenings_L44 E (f_X8_evenings_L44 E f) M (ad 50) (nI N) (lN v) (nI j) = _ ∧ _
    unfold b_X8_evenings_L44
    rw [n_200 hN, hH.2.2.1]
    by_cases e : j = N
    · subst e
      rw [if_pos (nI_le (Nat.le_refl _) (by omega)), Nat.sub_self, knownTogether_eq hS hs c.2.2.2, knownAll_6 hs hp]
      exact ⟨M, rfl, Off.rf⟩
    · rw [if_neg (nI_ge (a := j) (b := N) (by omega) (by omega))]
      dsimp only [nm]
      rw [rnd_x hv, rI_eq, rK_eq, nI_1]
      obtain ⟨d, hd⟩ : ∃ d, N - j = d + 1 := ⟨N - j - 1, by omega⟩
      have hd' : N - (j + 1) = d := by omega
      rw [hd]
      unfold evS
      have hi6 : rI v < 6 := rI_lt v
      have hk8 : rK v < 8 := rK_lt v
      have hw : okX (rnd v) := okX_r v
      have onext : ∀ (M1 : Mem) (s' : Sd), CS ad M1 (200 + 12) s' → Off ad M M1 (200 + 12) (200 + 16) → CO ad M1 200 (withS h s') := fun M1 s' h1 o => CO_withS (h := withS h s) (fun n h1 h2 k => o.1 n (by omega) k) c h1
      by_cases hi : rI v < oP h
      · sorry
      · have hnp : ¬ inP (oP h) (nI (rI v)) := inP_n hp hi6 hi
        rw [hasP_f (H := 200) c.1 hnp, if_pos I00, if_neg hi]
        obtain ⟨Ma, ea, ca, oa⟩ := passMinute_sp hI hS hs c.2.2.2
        rw [ea, Option.bind_some]
        obtain ⟨Mb, eb, ob⟩ := ih (j + 1) Ma (rnd v) _ (by omega) (by omega) hw (okS_pass hs (by omega)) (by show sT s + 1 + (N - (j + 1)) < 20000; omega) (onext Ma _ ca oa)
        rw [hd'] at eb
        exact ⟨Mb, eb, (oa.mono (by omega) (by omega)).tr ob⟩
end Al47
