/-! names of the objects: one injective ad, all references by names -/
section Names30
/-- (name, kind, (the name of the one that holds it, where)) -/
def nmT : List (Nat × Nat × Nat × Nat) := [(1, 9, 0, 0), (7, 9, 0, 7), (8, 9, 0, 8), (9, 9, 0, 9), (10, 9, 0, 10), (11, 9, 0, 11), (12, 9, 0, 12), (13, 9, 0, 13), (14, 9, 0, 14), (15, 9, 0, 15), (19, 9, 0, 19), (20, 9, 0, 20), (22, 9, 0, 22), (23, 10, 0, 23), (24, 9, 0, 24), (27, 9, 0, 27), (28, 9, 0, 28), (52, 12, 50, 2), (53, 11, 50, 3), (54, 6, 50, 4), (56, 9, 54, 1), (57, 9, 54, 8), (60, 2, 50, 5), (61, 9, 60, 0), (62, 9, 60, 1), (63, 9, 60, 2), (100, 0, 50, 0), (101, 9, 100, 1), (102, 9, 100, 2), (103, 5, 100, 9), (104, 1, 100, 10), (105, 13, 100, 4), (106, 3, 100, 6), (107, 9, 106, 1), (108, 3, 100, 7), (109, 9, 108, 1), (110, 3, 100, 8), (111, 9, 110, 1), (112, 4, 100, 3), (113, 9, 112, 0), (114, 9, 112, 1), (115, 9, 112, 2), (116, 4, 105, 0), (117, 9, 116, 0), (118, 9, 116, 1), (119, 9, 116, 2), (120, 4, 105, 1), (121, 9, 120, 0), (122, 9, 120, 1), (123, 9, 120, 2), (124, 4, 105, 2), (125, 9, 124, 0), (126, 9, 124, 1), (127, 9, 124, 2), (128, 4, 105, 3), (129, 9, 128, 0), (130, 9, 128, 1), (131, 9, 128, 2), (132, 4, 105, 4), (133, 9, 132, 0), (134, 9, 132, 1), (135, 9, 132, 2), (136, 4, 105, 5), (137, 9, 136, 0), (138, 9, 136, 1), (139, 9, 136, 2), (140, 4, 105, 6), (141, 9, 140, 0), (142, 9, 140, 1), (143, 9, 140, 2), (144, 4, 105, 7), (145, 9, 144, 0), (146, 9, 144, 1), (147, 9, 144, 2), (200, 0, 50, 1), (201, 9, 200, 1), (202, 9, 200, 2), (203, 5, 200, 9), (204, 1, 200, 10), (205, 13, 200, 4), (206, 3, 200, 6), (207, 9, 206, 1), (208, 3, 200, 7), (209, 9, 208, 1), (210, 3, 200, 8), (211, 9, 210, 1), (212, 4, 200, 3), (213, 9, 212, 0), (214, 9, 212, 1), (215, 9, 212, 2), (216, 4, 205, 0), (217, 9, 216, 0), (218, 9, 216, 1), (219, 9, 216, 2), (220, 4, 205, 1), (221, 9, 220, 0), (222, 9, 220, 1), (223, 9, 220, 2), (224, 4, 205, 2), (225, 9, 224, 0), (226, 9, 224, 1), (227, 9, 224, 2), (228, 4, 205, 3), (229, 9, 228, 0), (230, 9, 228, 1), (231, 9, 228, 2), (232, 4, 205, 4), (233, 9, 232, 0), (234, 9, 232, 1), (235, 9, 232, 2), (236, 4, 205, 5), (237, 9, 236, 0), (238, 9, 236, 1), (239, 9, 236, 2), (240, 4, 205, 6), (241, 9, 240, 0), (242, 9, 240, 1), (243, 9, 240, 2), (244, 4, 205, 7), (245, 9, 244, 0), (246, 9, 244, 1), (247, 9, 244, 2), (300, 0, 52, 0), (301, 9, 300, 1), (302, 9, 300, 2), (303, 5, 300, 9), (304, 1, 300, 10), (305, 13, 300, 4), (306, 3, 300, 6), (307, 9, 306, 1), (308, 3, 300, 7), (309, 9, 308, 1), (310, 3, 300, 8), (311, 9, 310, 1), (312, 4, 300, 3), (313, 9, 312, 0), (314, 9, 312, 1), (315, 9, 312, 2), (316, 4, 305, 0), (317, 9, 316, 0), (318, 9, 316, 1), (319, 9, 316, 2), (320, 4, 305, 1), (321, 9, 320, 0), (322, 9, 320, 1), (323, 9, 320, 2), (324, 4, 305, 2), (325, 9, 324, 0), (326, 9, 324, 1), (327, 9, 324, 2), (328, 4, 305, 3), (329, 9, 328, 0), (330, 9, 328, 1), (331, 9, 328, 2), (332, 4, 305, 4), (333, 9, 332, 0), (334, 9, 332, 1), (335, 9, 332, 2), (336, 4, 305, 5), (337, 9, 336, 0), (338, 9, 336, 1), (339, 9, 336, 2), (340, 4, 305, 6), (341, 9, 340, 0), (342, 9, 340, 1), (343, 9, 340, 2), (344, 4, 305, 7), (345, 9, 344, 0), (346, 9, 344, 1), (347, 9, 344, 2), (400, 0, 52, 1), (401, 9, 400, 1), (402, 9, 400, 2), (403, 5, 400, 9), (404, 1, 400, 10), (405, 13, 400, 4), (406, 3, 400, 6), (407, 9, 406, 1), (408, 3, 400, 7), (409, 9, 408, 1), (410, 3, 400, 8), (411, 9, 410, 1), (412, 4, 400, 3), (413, 9, 412, 0), (414, 9, 412, 1), (415, 9, 412, 2), (416, 4, 405, 0), (417, 9, 416, 0), (418, 9, 416, 1), (419, 9, 416, 2), (420, 4, 405, 1), (421, 9, 420, 0), (422, 9, 420, 1), (423, 9, 420, 2), (424, 4, 405, 2), (425, 9, 424, 0), (426, 9, 424, 1), (427, 9, 424, 2), (428, 4, 405, 3), (429, 9, 428, 0), (430, 9, 428, 1), (431, 9, 428, 2), (432, 4, 405, 4), (433, 9, 432, 0), (434, 9, 432, 1), (435, 9, 432, 2), (436, 4, 405, 5), (437, 9, 436, 0), (438, 9, 436, 1), (439, 9, 436, 2), (440, 4, 405, 6), (441, 9, 440, 0), (442, 9, 440, 1), (443, 9, 440, 2), (444, 4, 405, 7), (445, 9, 444, 0), (446, 9, 444, 1), (447, 9, 444, 2)]
def nmP (n : Nat) : Option (Nat × Nat × Nat) := nmT.lookup n
def nmK (n : Nat) : Option Nat := if n = 0 then some 8 else if n = 50 then some 7 else (nmP n).map (fun t => t.1)
def adF (E : Env1) (x m B : Nat) : Nat → Nat → Nat
  | 0, n => B + n
  | f + 1, n => if n = 0 then m else if n = 50 then x else match nmP n with
    | some (_, q, k) => rr E (adF E x m B f q) k
    | none => B + n
/-- all is well with a row of the table -/
def nmOk (t : Nat × Nat × Nat × Nat) : Bool := decide (t.2.2.1 < t.1) && decide (t.1 ≠ 0) && decide (t.1 ≠ 50) && (nmT.lookup t.1 == some t.2) && (match nmK t.2.2.1 with
  | some c => (rqT c).any (fun e => e.1 == t.2.2.2 && e.2.1 == t.2.1)
  | none => false)
def nmDp : Nat → Nat → Bool
  | 0, _ => false
  | f + 1, n => if n = 0 then true else if n = 50 then true else match nmP n with
    | some (_, q, _) => nmDp f q
    | none => true
set_option maxRecDepth 100000 in
theorem nmT_ok : nmT.all nmOk = true := by decide +kernel
set_option maxRecDepth 100000 in
theorem nmT_dp : nmT.all (fun t => nmDp 7 t.1) = true := by decide +kernel
theorem nm_mem {n : Nat} {t : Nat × Nat × Nat} (h : nmP n = some t) : (n, t) ∈ nmT := by
  unfold nmP at h
  generalize nmT = L at h
  induction L with
  | nil => cases h
  | cons y L ih =>
    rw [List.lookup_cons] at h
    split at h
    · rename_i e
      have e := eq_of_beq e
      cases h
      rw [e]
      exact List.mem_cons_self
    · exact List.mem_cons_of_mem _ (ih h)
theorem nm_ok {n c q k : Nat} (h : nmP n = some (c, q, k)) : q < n ∧ n ≠ 0 ∧ n ≠ 50 ∧ ∃ d e, nmK q = some d ∧ e ∈ rqT d ∧ e.1 = k ∧ e.2.1 = c := by
  have h1 := List.all_eq_true.mp nmT_ok _ (nm_mem h)
  unfold nmOk at h1
  simp only [Bool.and_eq_true, decide_eq_true_eq] at h1
  obtain ⟨⟨⟨⟨h1, h2⟩, h3⟩, -⟩, h5⟩ := h1
  refine ⟨h1, h2, h3, ?_⟩
  split at h5
  · rename_i d hd
    obtain ⟨e, he, h6⟩ := List.any_eq_true.mp h5
    simp only [Bool.and_eq_true, beq_iff_eq] at h6
    exact ⟨d, e, hd, he, h6.1, h6.2⟩
  · cases h5
theorem adF_st (E : Env1) (x m B : Nat) : ∀ f n, nmDp f n = true → ∀ g, f ≤ g → adF E x m B g n = adF E x m B f n := by
  intro f
  induction f with
  | zero => intro n h; cases h
  | succ f ih =>
    intro n h g hg
    obtain ⟨g, rfl⟩ : ∃ g', g = g' + 1 := ⟨g - 1, by omega⟩
    unfold nmDp at h
    unfold adF
    split
    · rfl
    · split
      · rfl
      · rename_i h1 h2
        rw [if_neg h1, if_neg h2] at h
        split
        · rename_i c q k e
          rw [e] at h
          rw [ih q h g (by omega)]
        · rfl
theorem nm_dp5 (n : Nat) : nmDp 7 n = true := by
  cases h : nmP n with
  | none =>
    unfold nmDp
    rw [h]
    (repeat' split) <;> first | rfl | contradiction
  | some t => exact List.all_eq_true.mp nmT_dp _ (nm_mem h)
def adE (E : Env1) (x m B n : Nat) : Nat := adF E x m B 7 n
theorem adE_0 (E : Env1) (x m B : Nat) : adE E x m B 0 = m := rfl
theorem adE_50 (E : Env1) (x m B : Nat) : adE E x m B 50 = x := rfl
theorem adE_n {E : Env1} {x m B n : Nat} (h0 : n ≠ 0) (h1 : n ≠ 50) (h : nmP n = none) : adE E x m B n = B + n := by
  unfold adE adF
  rw [if_neg h0, if_neg h1, h]
theorem adE_p {E : Env1} {x m B n c q k : Nat} (h : nmP n = some (c, q, k)) : adE E x m B n = rr E (adE E x m B q) k := by
  obtain ⟨-, h0, h1, -⟩ := nm_ok h
  have e := adF_st E x m B 7 n (nm_dp5 n) 8 (by decide)
  unfold adE
  rw [← e]
  show (if n = 0 then m else if n = 50 then x else match nmP n with
    | some (_, q, k) => rr E (adF E x m B 7 q) k
    | none => B + n) = _
  rw [if_neg h0, if_neg h1, h]
theorem adE_K {E : Env1} {x m B : Nat} (hW : WFt E) (hx : isK E x 7) (hm : isK E m 8) : ∀ n c, nmK n = some c → isK E (adE E x m B n) c := by
  intro n
  induction n using Nat.strongRecOn with
  | ind n ih =>
    intro c h
    unfold nmK at h
    split at h
    · rename_i e; subst e; cases h; exact hm
    · split at h
      · rename_i e; subst e; cases h; exact hx
      · cases hp : nmP n with
        | none => rw [hp] at h; cases h
        | some t =>
          obtain ⟨c', q, k⟩ := t
          rw [hp] at h
          cases h
          obtain ⟨hq, -, -, d, e, hd, he, hk, hc⟩ := nm_ok hp
          have hK := ih q hq d hd
          rw [adE_p hp]
          have := hW _ hK.1 e (by rw [hK.2]; exact he)
          unfold okR at this
          rw [hk] at this
          exact ⟨this.2.1, this.2.2.1.trans hc⟩
theorem adE_e {E : Env1} {x m B : Nat} (hW : WFt E) (hx : isK E x 7) (hm : isK E m 8) {n c q k : Nat} (h : nmP n = some (c, q, k)) : adE E x m B q ∈ eL E ∧ eR E (adE E x m B q) k = some (adE E x m B n) := by
  obtain ⟨hq, -, -, d, e, hd, he, hk, hc⟩ := nm_ok h
  have hK := adE_K (B := B) hW hx hm q d hd
  have := hW _ hK.1 e (by rw [hK.2]; exact he)
  unfold okR at this
  rw [hk] at this
  refine ⟨hK.1, ?_⟩
  rw [adE_p h]
  exact this.1
theorem nmT_inj : ∀ {n n' c c' q k : Nat}, nmP n = some (c, q, k) → nmP n' = some (c', q, k) → n = n' := by
  intro n n' c c' q k h h'
  have key : (nmT.all fun t => nmT.all fun t' => if t.2.2 = t'.2.2 then decide (t.1 = t'.1) else true) = true := by
    set_option maxRecDepth 100000 in decide +kernel
  have := List.all_eq_true.mp (List.all_eq_true.mp key _ (nm_mem h)) _ (nm_mem h')
  rw [if_pos rfl] at this
  exact of_decide_eq_true this
theorem adE_in {E : Env1} {x m B : Nat} (hW : WFt E) (hx : isK E x 7) (hm : isK E m 8) {n : Nat} (h : nmK n ≠ none) : adE E x m B n ∈ eL E := by
  cases hc : nmK n with
  | none => exact absurd hc h
  | some c => exact (adE_K hW hx hm n c hc).1
theorem nmK_p {n : Nat} (h : nmP n = none) (h0 : n ≠ 0) (h1 : n ≠ 50) : nmK n = none := by
  unfold nmK
  rw [if_neg h0, if_neg h1, h]
  rfl
theorem adE_inj {E : Env1} {x m B : Nat} (hW : WFt E) (hx : isK E x 7) (hm : isK E m 8)
    (hc : ∀ q k a, q ∈ eL E → eR E q k = some a → a ∈ eL E ∧ a ≠ x ∧ a ≠ m)
    (hi : ∀ q k q' k' a, q ∈ eL E → q' ∈ eL E → eR E q k = some a → eR E q' k' = some a → q = q' ∧ k = k')
    (hB : ∀ q, q ∈ eL E → q < B) : ∀ n n', adE E x m B n = adE E x m B n' → n = n' := by
  have hxm : x ≠ m := fun h => by have := hx.2; rw [h, hm.2] at this; exact absurd this (by decide)
  have big : ∀ n n', nmK n = none → adE E x m B n = adE E x m B n' → n = n' := by
    intro n n' h e
    have hp : nmP n = none ∧ n ≠ 0 ∧ n ≠ 50 := by
      unfold nmK at h
      split at h
      · cases h
      · split at h
        · cases h
        · rename_i a b
          cases hp : nmP n with
          | none => exact ⟨rfl, a, b⟩
          | some t => rw [hp] at h; cases h
    have e1 : adE E x m B n = B + n := adE_n hp.2.1 hp.2.2 hp.1
    cases hk : nmK n' with
    | some c =>
      have := hB _ (adE_K (B := B) hW hx hm n' c hk).1
      rw [← e, e1] at this
      omega
    | none =>
      have hp' : nmP n' = none ∧ n' ≠ 0 ∧ n' ≠ 50 := by
        unfold nmK at hk
        split at hk
        · cases hk
        · split at hk
          · cases hk
          · rename_i a b
            cases hp : nmP n' with
            | none => exact ⟨rfl, a, b⟩
            | some t => rw [hp] at hk; cases hk
      have e2 : adE E x m B n' = B + n' := adE_n hp'.2.1 hp'.2.2 hp'.1
      rw [e1, e2] at e
      omega
  intro n
  induction n using Nat.strongRecOn with
  | ind n ih =>
    intro n' e
    cases hk : nmK n with
    | none => exact big n n' hk e
    | some c =>
      cases hk' : nmK n' with
      | none => exact (big n' n hk' e.symm).symm
      | some c' =>
        cases hp : nmP n with
        | some t =>
          obtain ⟨d, q, k⟩ := t
          obtain ⟨i1, i2⟩ := adE_e (B := B) hW hx hm hp
          cases hp' : nmP n' with
          | some t' =>
            obtain ⟨d', q', k'⟩ := t'
            obtain ⟨j1, j2⟩ := adE_e (B := B) hW hx hm hp'
            rw [← e] at j2
            obtain ⟨u1, u2⟩ := hi _ _ _ _ _ i1 j1 i2 j2
            have u3 := ih q (nm_ok hp).1 q' u1
            subst u3
            subst u2
            exact nmT_inj hp hp'
          | none =>
            exfalso
            have : n' = 0 ∨ n' = 50 := by
              by_cases a : n' = 0
              · exact Or.inl a
              · by_cases b : n' = 50
                · exact Or.inr b
                · rw [nmK_p hp' a b] at hk'; cases hk'
            obtain ⟨-, v1, v2⟩ := hc _ _ _ i1 i2
            rcases this with z | z
            · rw [z, adE_0] at e; exact v2 e
            · rw [z, adE_50] at e; exact v1 e
        | none =>
          have : n = 0 ∨ n = 50 := by
            by_cases a : n = 0
            · exact Or.inl a
            · by_cases b : n = 50
              · exact Or.inr b
              · rw [nmK_p hp a b] at hk; cases hk
          cases hp' : nmP n' with
          | some t' =>
            exfalso
            obtain ⟨d', q', k'⟩ := t'
            obtain ⟨j1, j2⟩ := adE_e (B := B) hW hx hm hp'
            obtain ⟨-, v1, v2⟩ := hc _ _ _ j1 j2
            rcases this with z | z
            · rw [z, adE_0] at e; exact v2 e.symm
            · rw [z, adE_50] at e; exact v1 e.symm
          | none =>
            have : n' = 0 ∨ n' = 50 := by
              by_cases a : n' = 0
              · exact Or.inl a
              · by_cases b : n' = 50
                · exact Or.inr b
                · rw [nmK_p hp' a b] at hk'; cases hk'
            rename_i h7
            rcases h7 with z | z <;> rcases this with z' | z' <;> rw [z, z'] at e ⊢
            · rw [adE_0, adE_50] at e; exact absurd e.symm hxm
            · rw [adE_0, adE_50] at e; exact absurd e hxm
/-- ad names all objects; no two by one name -/
def Nm (E : Env1) (x m : Nat) (ad : Nat → Nat) : Prop := ad 0 = m ∧ ad 50 = x ∧ (∀ n n', ad n = ad n' → n = n') ∧ ∀ n c q k, nmP n = some (c, q, k) → rr E (ad q) k = ad n
theorem lt_sum (L : List Nat) : ∀ q, q ∈ L → q < L.sum + 1 := by
  induction L with
  | nil => intro q h; cases h
  | cons a L ih =>
    intro q h
    rw [List.sum_cons]
    rcases List.mem_cons.mp h with h | h
    · omega
    · have := ih q h; omega
theorem nm_start {E : Env1} {x m : Nat} {M : Mem} (h : Start E x m M) : ∃ ad, Nm E x m ad := by
  obtain ⟨hW, hx, hm, -, -, hc, hi, -⟩ := h
  exact ⟨adE E x m ((eL E).sum + 1), adE_0 _ _ _ _, adE_50 _ _ _ _, adE_inj hW hx hm hc hi (lt_sum _), fun n c q k hp => (adE_p hp).symm⟩
section NmF
variable {E : Env1} {x m : Nat} {ad : Nat → Nat}
theorem n_1 (h : Nm E x m ad) : rr E (m) 0 = ad 1 := h.1 ▸ h.2.2.2 1 9 0 0 rfl
theorem n_7 (h : Nm E x m ad) : rr E (m) 7 = ad 7 := h.1 ▸ h.2.2.2 7 9 0 7 rfl
theorem n_8 (h : Nm E x m ad) : rr E (m) 8 = ad 8 := h.1 ▸ h.2.2.2 8 9 0 8 rfl
theorem n_9 (h : Nm E x m ad) : rr E (m) 9 = ad 9 := h.1 ▸ h.2.2.2 9 9 0 9 rfl
theorem n_10 (h : Nm E x m ad) : rr E (m) 10 = ad 10 := h.1 ▸ h.2.2.2 10 9 0 10 rfl
theorem n_11 (h : Nm E x m ad) : rr E (m) 11 = ad 11 := h.1 ▸ h.2.2.2 11 9 0 11 rfl
theorem n_12 (h : Nm E x m ad) : rr E (m) 12 = ad 12 := h.1 ▸ h.2.2.2 12 9 0 12 rfl
theorem n_13 (h : Nm E x m ad) : rr E (m) 13 = ad 13 := h.1 ▸ h.2.2.2 13 9 0 13 rfl
theorem n_14 (h : Nm E x m ad) : rr E (m) 14 = ad 14 := h.1 ▸ h.2.2.2 14 9 0 14 rfl
theorem n_15 (h : Nm E x m ad) : rr E (m) 15 = ad 15 := h.1 ▸ h.2.2.2 15 9 0 15 rfl
theorem n_19 (h : Nm E x m ad) : rr E (m) 19 = ad 19 := h.1 ▸ h.2.2.2 19 9 0 19 rfl
theorem n_20 (h : Nm E x m ad) : rr E (m) 20 = ad 20 := h.1 ▸ h.2.2.2 20 9 0 20 rfl
theorem n_22 (h : Nm E x m ad) : rr E (m) 22 = ad 22 := h.1 ▸ h.2.2.2 22 9 0 22 rfl
theorem n_23 (h : Nm E x m ad) : rr E (m) 23 = ad 23 := h.1 ▸ h.2.2.2 23 10 0 23 rfl
theorem n_24 (h : Nm E x m ad) : rr E (m) 24 = ad 24 := h.1 ▸ h.2.2.2 24 9 0 24 rfl
theorem n_27 (h : Nm E x m ad) : rr E (m) 27 = ad 27 := h.1 ▸ h.2.2.2 27 9 0 27 rfl
theorem n_28 (h : Nm E x m ad) : rr E (m) 28 = ad 28 := h.1 ▸ h.2.2.2 28 9 0 28 rfl
theorem n_52 (h : Nm E x m ad) : rr E (x) 2 = ad 52 := h.2.1 ▸ h.2.2.2 52 12 50 2 rfl
theorem n_53 (h : Nm E x m ad) : rr E (x) 3 = ad 53 := h.2.1 ▸ h.2.2.2 53 11 50 3 rfl
theorem n_54 (h : Nm E x m ad) : rr E (x) 4 = ad 54 := h.2.1 ▸ h.2.2.2 54 6 50 4 rfl
theorem n_56 (h : Nm E x m ad) : rr E (ad 54) 1 = ad 56 :=  h.2.2.2 56 9 54 1 rfl
theorem n_57 (h : Nm E x m ad) : rr E (ad 54) 8 = ad 57 :=  h.2.2.2 57 9 54 8 rfl
theorem n_60 (h : Nm E x m ad) : rr E (x) 5 = ad 60 := h.2.1 ▸ h.2.2.2 60 2 50 5 rfl
theorem n_61 (h : Nm E x m ad) : rr E (ad 60) 0 = ad 61 :=  h.2.2.2 61 9 60 0 rfl
theorem n_62 (h : Nm E x m ad) : rr E (ad 60) 1 = ad 62 :=  h.2.2.2 62 9 60 1 rfl
theorem n_63 (h : Nm E x m ad) : rr E (ad 60) 2 = ad 63 :=  h.2.2.2 63 9 60 2 rfl
theorem n_100 (h : Nm E x m ad) : rr E (x) 0 = ad 100 := h.2.1 ▸ h.2.2.2 100 0 50 0 rfl
theorem n_200 (h : Nm E x m ad) : rr E (x) 1 = ad 200 := h.2.1 ▸ h.2.2.2 200 0 50 1 rfl
theorem n_300 (h : Nm E x m ad) : rr E (ad 52) 0 = ad 300 :=  h.2.2.2 300 0 52 0 rfl
theorem n_400 (h : Nm E x m ad) : rr E (ad 52) 1 = ad 400 :=  h.2.2.2 400 0 52 1 rfl
theorem ad_ij (h : Nm E x m ad) (a b : Nat) : (ad a = ad b) = (a = b) := propext ⟨fun e => h.2.2.1 a b e, fun e => e ▸ rfl⟩
/-- the parts of a house -/
def HN (E : Env1) (ad : Nat → Nat) (H : Nat) : Prop := rr E (ad H) 1 = ad (H + 1) ∧ rr E (ad H) 2 = ad (H + 2) ∧ rr E (ad H) 3 = ad (H + 12) ∧ rr E (ad H) 4 = ad (H + 5) ∧ rr E (ad H) 6 = ad (H + 6) ∧ rr E (ad H) 7 = ad (H + 8) ∧ rr E (ad H) 8 = ad (H + 10) ∧ rr E (ad H) 9 = ad (H + 3) ∧ rr E (ad H) 10 = ad (H + 4)
/-- of a stand -/
def SN (E : Env1) (ad : Nat → Nat) (S : Nat) : Prop := rr E (ad S) 0 = ad (S + 1) ∧ rr E (ad S) 1 = ad (S + 2) ∧ rr E (ad S) 2 = ad (S + 3)
/-- of rows -/
def WN (E : Env1) (ad : Nat → Nat) (R : Nat) : Prop := rr E (ad R) 1 = ad (R + 1)
def isH (H : Nat) : Prop := H = 100 ∨ H = 200 ∨ H = 300 ∨ H = 400
set_option maxRecDepth 100000 in
theorem hn_of (h : Nm E x m ad) {H : Nat} (hH : isH H) : HN E ad H := by
  have g := h.2.2.2
  rcases hH with rfl | rfl | rfl | rfl <;> exact ⟨g _ _ _ _ rfl, g _ _ _ _ rfl, g _ _ _ _ rfl, g _ _ _ _ rfl, g _ _ _ _ rfl, g _ _ _ _ rfl, g _ _ _ _ rfl, g _ _ _ _ rfl, g _ _ _ _ rfl⟩
set_option maxRecDepth 100000 in
theorem sn_of (h : Nm E x m ad) {H : Nat} (hH : isH H) : SN E ad (H + 12) := by
  have g := h.2.2.2
  rcases hH with rfl | rfl | rfl | rfl <;> exact ⟨g _ _ _ _ rfl, g _ _ _ _ rfl, g _ _ _ _ rfl⟩
set_option maxRecDepth 100000 in
theorem sp_of (h : Nm E x m ad) {H : Nat} (hH : isH H) {j : Nat} (hj : j < 8) : SN E ad (H + 16 + 4 * j) ∧ rr E (ad (H + 5)) j = ad (H + 16 + 4 * j) := by
  have g := h.2.2.2
  rcases hH with rfl | rfl | rfl | rfl <;> (rcases (show j = 0 ∨ j = 1 ∨ j = 2 ∨ j = 3 ∨ j = 4 ∨ j = 5 ∨ j = 6 ∨ j = 7 by omega) with rfl | rfl | rfl | rfl | rfl | rfl | rfl | rfl) <;> exact ⟨⟨g _ _ _ _ rfl, g _ _ _ _ rfl, g _ _ _ _ rfl⟩, g _ _ _ _ rfl⟩
set_option maxRecDepth 100000 in
theorem wn_of (h : Nm E x m ad) {H : Nat} (hH : isH H) : WN E ad (H + 6) ∧ WN E ad (H + 8) ∧ WN E ad (H + 10) := by
  have g := h.2.2.2
  rcases hH with rfl | rfl | rfl | rfl <;> exact ⟨g _ _ _ _ rfl, g _ _ _ _ rfl, g _ _ _ _ rfl⟩
end NmF
end Names30
