/-! rows of the heap over G -/
section Heap
theorem flds_len (E : Env1) (M : Mem) (a : Nat) : ∀ (ts : List Nat) (k : Nat), (flds E M a k ts).length = ts.length
  | [], _ => rfl
  | t :: ts, k => by simp [flds, flds_len E M a ts (k + 1)]
theorem flds_get (E : Env1) (M : Mem) (a : Nat) : ∀ (ts : List Nat) (k j t : Nat), ts[j]? = some t → (flds E M a k ts)[j]? = some (if t = 0 then Value.int (mi M a (k + j)) else if t = 1 then Value.long (ml M a (k + j)) else va_rf (eR E a (k + j)))
  | [], _, _, _, h => by simp at h
  | u :: ts, k, 0, t, h => by
    simp at h
    subst h
    simp [flds]
  | u :: ts, k, j + 1, t, h => by
    have := flds_get E M a ts (k + 1) j t (by simpa using h)
    rw [show k + (j + 1) = k + 1 + j by omega]
    simpa [flds] using this
theorem flds_off (E : Env1) (M M' : Mem) (a : Nat) : ∀ (ts : List Nat) (k : Nat), (∀ j, k ≤ j → mi M a j = mi M' a j ∧ ml M a j = ml M' a j) → flds E M a k ts = flds E M' a k ts
  | [], _, _ => rfl
  | t :: ts, k, h => by
    simp only [flds]
    rw [(h k (Nat.le_refl k)).1, (h k (Nat.le_refl k)).2, flds_off E M M' a ts (k + 1) (fun j hj => h j (by omega))]
theorem flds_seti (E : Env1) (M : Mem) (a : Nat) (v : Int32) : ∀ (ts : List Nat) (k j : Nat), ts[j]? = some 0 → (flds E M a k ts).set j (.int v) = flds E (wi M a (k + j) v) a k ts
  | [], _, _, h => by simp at h
  | u :: ts, k, 0, h => by
    simp at h
    subst h
    simp only [flds, List.set_cons_zero, if_true, Nat.add_zero]
    rw [flds_off E M (wi M a k v) a ts (k + 1) (fun j hj => by
      rw [mi_wi, if_neg (by omega), ml_wi]
      exact ⟨rfl, rfl⟩), mi_wi, if_pos ⟨rfl, rfl⟩]
  | u :: ts, k, j + 1, h => by
    have h2 := flds_seti E M a v ts (k + 1) j (by simpa using h)
    simp only [flds, List.set_cons_succ]
    have e1 : mi (wi M a (k + 1 + j) v) a k = mi M a k := by
      rw [mi_wi]
      exact if_neg (by omega)
    rw [h2, show k + (j + 1) = k + 1 + j by omega, e1, ml_wi]
theorem flds_setl (E : Env1) (M : Mem) (a : Nat) (v : Int64) : ∀ (ts : List Nat) (k j : Nat), ts[j]? = some 1 → (flds E M a k ts).set j (.long v) = flds E (wl M a (k + j) v) a k ts
  | [], _, _, h => by simp at h
  | u :: ts, k, 0, h => by
    simp at h
    subst h
    have e1 : ml (wl M a k v) a k = v := by
      rw [ml_wl]
      exact if_pos ⟨rfl, rfl⟩
    simp only [flds, List.set_cons_zero, Nat.add_zero]
    rw [flds_off E M (wl M a k v) a ts (k + 1) (fun j hj => by
      rw [mi_wl, ml_wl, if_neg (by omega)]
      exact ⟨rfl, rfl⟩), e1]
    rfl
  | u :: ts, k, j + 1, h => by
    have h2 := flds_setl E M a v ts (k + 1) j (by simpa using h)
    simp only [flds, List.set_cons_succ]
    have e1 : ml (wl M a (k + 1 + j) v) a k = ml M a k := by
      rw [ml_wl]
      exact if_neg (by omega)
    rw [h2, show k + (j + 1) = k + 1 + j by omega, mi_wl, e1]
theorem flds_at (E : Env1) (M M' : Mem) (a : Nat) (ts : List Nat) (k : Nat) (h1 : ∀ j, mi M a j = mi M' a j) (h2 : ∀ j, ml M a j = ml M' a j) : flds E M a k ts = flds E M' a k ts := flds_off E M M' a ts k (fun j _ => ⟨h1 j, h2 j⟩)
theorem cel_obj {E : Env1} {M : Mem} {a c : Nat} (h : eK E a = c) (hc : c < 9) : cel E M a = .inr (c, flds E M a 0 (tg c)) := by
  unfold cel
  rw [h, if_neg (by omega), if_neg (by omega), if_neg (by omega), if_neg (by omega), if_neg (by omega), if_neg (by omega), if_neg (by omega), show c % 20 = c by omega]
theorem cel_raw {E : Env1} {M : Mem} {a c : Nat} (h : eK E a = 20 + c) (hc : c < 9) : cel E M a = .inr (c, flds E M a 0 (tg c)) := by
  unfold cel
  rw [h, if_neg (by omega), if_neg (by omega), if_neg (by omega), if_neg (by omega), if_neg (by omega), if_neg (by omega), if_neg (by omega), show (20 + c) % 20 = c by omega]
theorem cel_kd {E : Env1} {M : Mem} {a kd c : Nat} (h : eK E a = kd) (hk : kd = c ∨ kd = 20 + c) (hc : c < 9) : cel E M a = .inr (c, flds E M a 0 (tg c)) := by
  rcases hk with rfl | rfl
  · exact cel_obj h hc
  · exact cel_raw h hc
theorem cel_9 {E : Env1} {M : Mem} {a : Nat} (h : eK E a = 9) : cel E M a = .inl (eC E 9, eN E a, .inl (mi M a)) := by
  unfold cel
  rw [h]
  rfl
theorem cel_10 {E : Env1} {M : Mem} {a : Nat} (h : eK E a = 10) : cel E M a = .inl (eC E 10, eN E a, .inr (.inl (ml M a))) := by
  unfold cel
  rw [h]
  rfl
theorem cel_11 {E : Env1} {M : Mem} {a : Nat} (h : eK E a = 11) : cel E M a = .inl (eC E 11, eN E a, .inl (mi M a)) := by
  unfold cel
  rw [h]
  rfl
theorem cel_12 {E : Env1} {M : Mem} {a : Nat} (h : eK E a = 12) : cel E M a = .inl (eC E 12, eN E a, .inr (.inr (.inr (.inr (eR E a))))) := by
  unfold cel
  rw [h]
  rfl
theorem cel_13 {E : Env1} {M : Mem} {a : Nat} (h : eK E a = 13) : cel E M a = .inl (eC E 13, eN E a, .inr (.inr (.inr (.inr (fun j => (eR E a j).map (fun _ => mr M a j)))))) := by
  unfold cel
  rw [h]
  rfl
/-- a cell at which nothing differs -/
theorem cel_eq {E : Env1} {M M' : Mem} {b : Nat} (h1 : ∀ j, mi M b j = mi M' b j) (h2 : ∀ j, ml M b j = ml M' b j) (h3 : ∀ j, mr M b j = mr M' b j) : cel E M b = cel E M' b := by
  unfold cel
  rw [show mi M b = mi M' b from funext h1, show ml M b = ml M' b from funext h2, show mr M b = mr M' b from funext h3, flds_at E M M' b _ _ h1 h2]
theorem cel_wi_ne {E : Env1} {M : Mem} {a k b : Nat} {v : Int32} (h : b ≠ a) : cel E (wi M a k v) b = cel E M b :=
  cel_eq (fun j => by rw [mi_wi, if_neg (by simp [h])]) (fun j => ml_wi _ _ _ _ _ _) (fun j => mr_wi _ _ _ _ _ _)
theorem cel_wl_ne {E : Env1} {M : Mem} {a k b : Nat} {v : Int64} (h : b ≠ a) : cel E (wl M a k v) b = cel E M b :=
  cel_eq (fun j => mi_wl _ _ _ _ _ _) (fun j => by rw [ml_wl, if_neg (by simp [h])]) (fun j => mr_wl _ _ _ _ _ _)
theorem cel_wr_ne {E : Env1} {M : Mem} {a k b : Nat} {v : Nat} (h : b ≠ a) : cel E (wr M a k v) b = cel E M b :=
  cel_eq (fun j => mi_wr _ _ _ _ _ _) (fun j => ml_wr _ _ _ _ _ _) (fun j => by rw [mr_wr, if_neg (by simp [h])])
theorem cel_pli {E : Env1} {M : Mem} {a kd c j : Nat} {v : Int32} (h : eK E a = kd) (hk : kd = c ∨ kd = 20 + c) (hc : c < 9) (ht : (tg c)[j]? = some 0) : va_pl (eL E) (va_up (cel E M) a (.inr (c, (flds E M a 0 (tg c)).set j (.int v)))) = va_pl (eL E) (cel E (wi M a j v)) := by
  apply va_pl_congr
  intro b
  by_cases hb : b = a
  · subst hb
    rw [va_up_self, cel_kd (M := wi M b j v) h hk hc, flds_seti E M b v (tg c) 0 j ht, Nat.zero_add]
  · rw [va_up_ne _ _ hb, cel_wi_ne hb]
theorem cel_pll {E : Env1} {M : Mem} {a kd c j : Nat} {v : Int64} (h : eK E a = kd) (hk : kd = c ∨ kd = 20 + c) (hc : c < 9) (ht : (tg c)[j]? = some 1) : va_pl (eL E) (va_up (cel E M) a (.inr (c, (flds E M a 0 (tg c)).set j (.long v)))) = va_pl (eL E) (cel E (wl M a j v)) := by
  apply va_pl_congr
  intro b
  by_cases hb : b = a
  · subst hb
    rw [va_up_self, cel_kd (M := wl M b j v) h hk hc, flds_setl E M b v (tg c) 0 j ht, Nat.zero_add]
  · rw [va_up_ne _ _ hb, cel_wl_ne hb]
theorem cel_pl9 {E : Env1} {M : Mem} {a j : Nat} {v : Int32} (h : eK E a = 9) : va_pl (eL E) (va_up (cel E M) a (.inl (eC E 9, eN E a, .inl (upd (mi M a) j v)))) = va_pl (eL E) (cel E (wi M a j v)) := by
  apply va_pl_congr
  intro b
  by_cases hb : b = a
  · subst hb
    rw [va_up_self, cel_9 h, show mi (wi M b j v) b = upd (mi M b) j v from funext (fun i => by rw [mi_wi]; unfold upd; simp)]
  · rw [va_up_ne _ _ hb, cel_wi_ne hb]
theorem cel_pl11 {E : Env1} {M : Mem} {a j : Nat} {v : Int32} (h : eK E a = 11) : va_pl (eL E) (va_up (cel E M) a (.inl (eC E 11, eN E a, .inl (upd (mi M a) j v)))) = va_pl (eL E) (cel E (wi M a j v)) := by
  apply va_pl_congr
  intro b
  by_cases hb : b = a
  · subst hb
    rw [va_up_self, cel_11 h, show mi (wi M b j v) b = upd (mi M b) j v from funext (fun i => by rw [mi_wi]; unfold upd; simp)]
  · rw [va_up_ne _ _ hb, cel_wi_ne hb]
theorem cel_pl10 {E : Env1} {M : Mem} {a j : Nat} {v : Int64} (h : eK E a = 10) : va_pl (eL E) (va_up (cel E M) a (.inl (eC E 10, eN E a, .inr (.inl (vp_updL (ml M a) j v))))) = va_pl (eL E) (cel E (wl M a j v)) := by
  apply va_pl_congr
  intro b
  by_cases hb : b = a
  · subst hb
    rw [va_up_self, cel_10 h, show ml (wl M b j v) b = vp_updL (ml M b) j v from funext (fun i => by rw [ml_wl]; unfold vp_updL; simp)]
  · rw [va_up_ne _ _ hb, cel_wl_ne hb]
section Rows2
variable {X : Ctx} {l0 : Launch} {E : Env1} {cs : Nat × Nat} {own : String} {cc : ByteArray} {ret : Option FieldType} {nL pc : Nat} {rm : Room} {L L' : List (Option Value)} {st : List Value} {M : Mem}
theorem pl0 (L : List Nat) (f : Nat → va_E) : ([] : va_W) ++ va_pl L f = va_pl L f := rfl

theorem G_geti (h : Cx X l0 E own cc ret nL rm) {C : String} {T : u_T} {N ci idx k a : Nat} (hc : vwCl[ci]? = some (C, T, N)) (hin : ∀ w ∈ u_ws C T N, w ∈ lw_g) (hlink : Cond.fieldLink own idx C (T k).2.1 (T k).2.2.1 ∈ lw_g) (hsame : (T k).1 = C) (hk : k < N) (ht : (tg ci)[k]? = some 0) (hci : ci < 9) (hd : decode cc pc = .ok (.getfield idx, 3)) (ha : isK E a ci) {pc' : Nat} (hp : pc + 3 = pc') (kk : G X E cs pc' L (.int (mi M a k) :: st) M) : G X E cs pc L (.ref a :: st) M := by
  subst hp
  obtain ⟨p, l, e, R, s, m, args, below, meth, c, Q, nl⟩ := X
  obtain ⟨hx, hb, hr, hml, hown, hts, hlk, hK, hB, rfl, rfl, rfl, hN, hZ⟩ := h
  intro H locs ls hW hM hl
  obtain ⟨hP, hD, hS⟩ := hW
  obtain ⟨n, hn⟩ := va_pl_get (X := []) (f := cel E M) ha.1
  rw [pl0, cel_obj ha.2 hci] at hn
  exact va_get hx hb hts hin hown hK hP n hn hc k hk (hts _ hlink) (fun x hx => by rw [hsame] at hx; exact hx) (v := .int (mi M a k)) (by rw [flds_get E M a (tg ci) 0 k 0 ht]; simp) hd (kk H locs ls ⟨hP, hD, hS⟩ hM hl)
theorem G_getl (h : Cx X l0 E own cc ret nL rm) {C : String} {T : u_T} {N ci idx k a : Nat} (hc : vwCl[ci]? = some (C, T, N)) (hin : ∀ w ∈ u_ws C T N, w ∈ lw_g) (hlink : Cond.fieldLink own idx C (T k).2.1 (T k).2.2.1 ∈ lw_g) (hsame : (T k).1 = C) (hk : k < N) (ht : (tg ci)[k]? = some 1) (hci : ci < 9) (hd : decode cc pc = .ok (.getfield idx, 3)) (ha : isK E a ci) {pc' : Nat} (hp : pc + 3 = pc') (kk : G X E cs pc' L (.long (ml M a k) :: st) M) : G X E cs pc L (.ref a :: st) M := by
  subst hp
  obtain ⟨p, l, e, R, s, m, args, below, meth, c, Q, nl⟩ := X
  obtain ⟨hx, hb, hr, hml, hown, hts, hlk, hK, hB, rfl, rfl, rfl, hN, hZ⟩ := h
  intro H locs ls hW hM hl
  obtain ⟨hP, hD, hS⟩ := hW
  obtain ⟨n, hn⟩ := va_pl_get (X := []) (f := cel E M) ha.1
  rw [pl0, cel_obj ha.2 hci] at hn
  exact va_get hx hb hts hin hown hK hP n hn hc k hk (hts _ hlink) (fun x hx => by rw [hsame] at hx; exact hx) (v := .long (ml M a k)) (by rw [flds_get E M a (tg ci) 0 k 1 ht]; simp) hd (kk H locs ls ⟨hP, hD, hS⟩ hM hl)
theorem G_getr (h : Cx X l0 E own cc ret nL rm) {C : String} {T : u_T} {N ci idx k a : Nat} (hc : vwCl[ci]? = some (C, T, N)) (hin : ∀ w ∈ u_ws C T N, w ∈ lw_g) (hlink : Cond.fieldLink own idx C (T k).2.1 (T k).2.2.1 ∈ lw_g) (hsame : (T k).1 = C) (hk : k < N) (ht : (tg ci)[k]? = some 2) (hci : ci < 9) (hd : decode cc pc = .ok (.getfield idx, 3)) {kd : Nat} (hkd : kd = ci ∨ kd = 20 + ci) (ha : isK E a kd) (hr0 : eR E a k = some (rr E a k)) {pc' : Nat} (hp : pc + 3 = pc') (kk : G X E cs pc' L (.ref (rr E a k) :: st) M) : G X E cs pc L (.ref a :: st) M := by
  subst hp
  obtain ⟨p, l, e, R, s, m, args, below, meth, c, Q, nl⟩ := X
  obtain ⟨hx, hb, hr, hml, hown, hts, hlk, hK, hB, rfl, rfl, rfl, hN, hZ⟩ := h
  intro H locs ls hW hM hl
  obtain ⟨hP, hD, hS⟩ := hW
  obtain ⟨n, hn⟩ := va_pl_get (X := []) (f := cel E M) ha.1
  rw [pl0, cel_kd ha.2 hkd hci] at hn
  exact va_get hx hb hts hin hown hK hP n hn hc k hk (hts _ hlink) (fun x hx => by rw [hsame] at hx; exact hx) (v := .ref (rr E a k)) (by rw [flds_get E M a (tg ci) 0 k 2 ht, Nat.zero_add, hr0]; rfl) hd (kk H locs ls ⟨hP, hD, hS⟩ hM hl)
theorem G_puti (h : Cx X l0 E own cc ret nL rm) {C : String} {T : u_T} {N ci idx k a : Nat} (hc : vwCl[ci]? = some (C, T, N)) (hin : ∀ w ∈ u_ws C T N, w ∈ lw_g) (hlink : Cond.fieldLink own idx C (T k).2.1 (T k).2.2.1 ∈ lw_g) (hsame : (T k).1 = C) (hk : k < N) (ht : (tg ci)[k]? = some 0) (hci : ci < 9) (ty0 : Nat → FieldType) (hty : ∀ k, k < N → parseFieldDescriptor (T k).2.2.1 = some (ty0 k)) (hnm : ∀ a, a < N → ∀ b, b < N → a ≠ b → (T a).2.1 ≠ (T b).2.1) (hfin : (T k).2.2.2 = false) (h0 : ty0 k = .int) (hd : decode cc pc = .ok (.putfield idx, 3)) {kd : Nat} (hkd : kd = ci ∨ kd = 20 + ci) (ha : isK E a kd) {v : Int32} {pc' : Nat} (hp : pc + 3 = pc') (kk : G X E cs pc' L st (wi M a k v)) : G X E cs pc L (.int v :: .ref a :: st) M := by
  subst hp
  obtain ⟨p, l, e, R, s, m, args, below, meth, c, Q, nl⟩ := X
  obtain ⟨hx, hb, hr, hml, hown, hts, hlk, hK, hB, rfl, rfl, rfl, hN, hZ⟩ := h
  intro H locs ls hW hM hl
  obtain ⟨hP, hD, hS⟩ := hW
  obtain ⟨n, hn⟩ := va_pl_get (X := []) (f := cel E M) ha.1
  have hn2 := hn
  rw [pl0, cel_kd ha.2 hkd hci] at hn2
  refine va_put hx hb hts hin ty0 hty hnm hown hK hP hD hS n hn2 hc k hk (hts _ hlink) (fun x hx => by rw [hsame] at hx; exact hx) hfin (ty := .int) (v := .int v) (by rw [hty k hk, h0]) rfl rfl (by rw [flds_len]; exact (List.getElem?_eq_some_iff.mp ht).1) hd (fun H1 locs1 hP1 hD1 hS1 => ?_)
  have e1 := va_pl_set (X := []) (e := .inr (ci, (flds E M a 0 (tg ci)).set k (.int v))) hD ha.1 hn
  rw [pl0, pl0, cel_pli ha.2 hkd hci ht] at e1
  rw [e1] at hP1 hD1
  exact kk H1 locs1 ls ⟨hP1, hD1, hS1⟩ hM hl
theorem G_putl (h : Cx X l0 E own cc ret nL rm) {C : String} {T : u_T} {N ci idx k a : Nat} (hc : vwCl[ci]? = some (C, T, N)) (hin : ∀ w ∈ u_ws C T N, w ∈ lw_g) (hlink : Cond.fieldLink own idx C (T k).2.1 (T k).2.2.1 ∈ lw_g) (hsame : (T k).1 = C) (hk : k < N) (ht : (tg ci)[k]? = some 1) (hci : ci < 9) (ty0 : Nat → FieldType) (hty : ∀ k, k < N → parseFieldDescriptor (T k).2.2.1 = some (ty0 k)) (hnm : ∀ a, a < N → ∀ b, b < N → a ≠ b → (T a).2.1 ≠ (T b).2.1) (hfin : (T k).2.2.2 = false) (h0 : ty0 k = .long) (hd : decode cc pc = .ok (.putfield idx, 3)) {kd : Nat} (hkd : kd = ci ∨ kd = 20 + ci) (ha : isK E a kd) {v : Int64} {pc' : Nat} (hp : pc + 3 = pc') (kk : G X E cs pc' L st (wl M a k v)) : G X E cs pc L (.long v :: .ref a :: st) M := by
  subst hp
  obtain ⟨p, l, e, R, s, m, args, below, meth, c, Q, nl⟩ := X
  obtain ⟨hx, hb, hr, hml, hown, hts, hlk, hK, hB, rfl, rfl, rfl, hN, hZ⟩ := h
  intro H locs ls hW hM hl
  obtain ⟨hP, hD, hS⟩ := hW
  obtain ⟨n, hn⟩ := va_pl_get (X := []) (f := cel E M) ha.1
  have hn2 := hn
  rw [pl0, cel_kd ha.2 hkd hci] at hn2
  refine va_put hx hb hts hin ty0 hty hnm hown hK hP hD hS n hn2 hc k hk (hts _ hlink) (fun x hx => by rw [hsame] at hx; exact hx) hfin (ty := .long) (v := .long v) (by rw [hty k hk, h0]) rfl rfl (by rw [flds_len]; exact (List.getElem?_eq_some_iff.mp ht).1) hd (fun H1 locs1 hP1 hD1 hS1 => ?_)
  have e1 := va_pl_set (X := []) (e := .inr (ci, (flds E M a 0 (tg ci)).set k (.long v))) hD ha.1 hn
  rw [pl0, pl0, cel_pll ha.2 hkd hci ht] at e1
  rw [e1] at hP1 hD1
  exact kk H1 locs1 ls ⟨hP1, hD1, hS1⟩ hM hl
theorem G_iald (h : Cx X l0 E own cc ret nL rm) {a n : Nat} {i : Int32} (hd : decode cc pc = .ok (.iaload, 1)) (ha : isA E a 9 n) (hi : vp_in i n) {jx : Nat} (hj : i.toNatClampNeg = jx) {pc' : Nat} (hp : pc + 1 = pc') (kk : G X E cs pc' L (.int (mi M a jx) :: st) M) : G X E cs pc L (.int i :: .ref a :: st) M := by
  subst hp
  subst hj
  obtain ⟨p, l, e, R, s, m, args, below, meth, c, Q, nl⟩ := X
  obtain ⟨hx, hb, hr, hml, hown, hts, hlk, hK, hB, rfl, rfl, rfl, hN, hZ⟩ := h
  intro H locs ls hW hM hl
  obtain ⟨hP, hD, hS⟩ := hW
  obtain ⟨j, hn⟩ := va_pl_get (X := []) (f := cel E M) ha.1
  rw [pl0, cel_9 ha.2.1] at hn
  exact va_iald hx hb hK hP j 0 hn rfl (by rw [ha.2.2]; exact hi) hd (kk H locs ls ⟨hP, hD, hS⟩ hM hl)
theorem G_lald (h : Cx X l0 E own cc ret nL rm) {a n : Nat} {i : Int32} (hd : decode cc pc = .ok (.laload, 1)) (ha : isA E a 10 n) (hi : vp_in i n) {jx : Nat} (hj : i.toNatClampNeg = jx) {pc' : Nat} (hp : pc + 1 = pc') (kk : G X E cs pc' L (.long (ml M a jx) :: st) M) : G X E cs pc L (.int i :: .ref a :: st) M := by
  subst hp
  subst hj
  obtain ⟨p, l, e, R, s, m, args, below, meth, c, Q, nl⟩ := X
  obtain ⟨hx, hb, hr, hml, hown, hts, hlk, hK, hB, rfl, rfl, rfl, hN, hZ⟩ := h
  intro H locs ls hW hM hl
  obtain ⟨hP, hD, hS⟩ := hW
  obtain ⟨j, hn⟩ := va_pl_get (X := []) (f := cel E M) ha.1
  rw [pl0, cel_10 ha.2.1] at hn
  exact va_lald hx hb hK hP j 1 hn rfl (by rw [ha.2.2]; exact hi) hd (kk H locs ls ⟨hP, hD, hS⟩ hM hl)
theorem G_zald (h : Cx X l0 E own cc ret nL rm) {a n : Nat} {i : Int32} (hd : decode cc pc = .ok (.baload, 1)) (ha : isA E a 11 n) (hi : vp_in i n) {jx : Nat} (hj : i.toNatClampNeg = jx) {pc' : Nat} (hp : pc + 1 = pc') (kk : G X E cs pc' L (.int (mi M a jx) :: st) M) : G X E cs pc L (.int i :: .ref a :: st) M := by
  subst hp
  subst hj
  obtain ⟨p, l, e, R, s, m, args, below, meth, c, Q, nl⟩ := X
  obtain ⟨hx, hb, hr, hml, hown, hts, hlk, hK, hB, rfl, rfl, rfl, hN, hZ⟩ := h
  intro H locs ls hW hM hl
  obtain ⟨hP, hD, hS⟩ := hW
  obtain ⟨j, hn⟩ := va_pl_get (X := []) (f := cel E M) ha.1
  rw [pl0, cel_11 ha.2.1] at hn
  exact va_zald hx hb hK hP j 2 hn rfl (by rw [ha.2.2]; exact hi) hd (kk H locs ls ⟨hP, hD, hS⟩ hM hl)
theorem G_iast (h : Cx X l0 E own cc ret nL rm) {a n : Nat} {i : Int32} {v : Int32} (hd : decode cc pc = .ok (.iastore, 1)) (ha : isA E a 9 n) (hi : vp_in i n) {jx : Nat} (hj : i.toNatClampNeg = jx) {pc' : Nat} (hp : pc + 1 = pc') (kk : G X E cs pc' L st (wi M a jx v)) : G X E cs pc L (.int v :: .int i :: .ref a :: st) M := by
  subst hp
  subst hj
  obtain ⟨p, l, e, R, s, m, args, below, meth, c, Q, nl⟩ := X
  obtain ⟨hx, hb, hr, hml, hown, hts, hlk, hK, hB, rfl, rfl, rfl, hN, hZ⟩ := h
  intro H locs ls hW hM hl
  obtain ⟨hP, hD, hS⟩ := hW
  obtain ⟨j, hn⟩ := va_pl_get (X := []) (f := cel E M) ha.1
  have hn2 := hn
  rw [pl0, cel_9 ha.2.1] at hn2
  refine va_iast hx hb hK hP hD hS j 0 hn2 rfl (by rw [ha.2.2]; exact hi) hd (fun H1 locs1 hP1 hD1 hS1 => ?_)
  have e1 := fun e => va_pl_set (X := []) (e := e) hD ha.1 hn
  simp only [pl0] at e1
  rw [e1, cel_pl9 ha.2.1] at hP1 hD1
  exact kk H1 locs1 ls ⟨hP1, hD1, hS1⟩ hM hl
theorem G_last (h : Cx X l0 E own cc ret nL rm) {a n : Nat} {i : Int32} {v : Int64} (hd : decode cc pc = .ok (.lastore, 1)) (ha : isA E a 10 n) (hi : vp_in i n) {jx : Nat} (hj : i.toNatClampNeg = jx) {pc' : Nat} (hp : pc + 1 = pc') (kk : G X E cs pc' L st (wl M a jx v)) : G X E cs pc L (.long v :: .int i :: .ref a :: st) M := by
  subst hp
  subst hj
  obtain ⟨p, l, e, R, s, m, args, below, meth, c, Q, nl⟩ := X
  obtain ⟨hx, hb, hr, hml, hown, hts, hlk, hK, hB, rfl, rfl, rfl, hN, hZ⟩ := h
  intro H locs ls hW hM hl
  obtain ⟨hP, hD, hS⟩ := hW
  obtain ⟨j, hn⟩ := va_pl_get (X := []) (f := cel E M) ha.1
  have hn2 := hn
  rw [pl0, cel_10 ha.2.1] at hn2
  refine va_last hx hb hK hP hD hS j 1 hn2 rfl (by rw [ha.2.2]; exact hi) hd (fun H1 locs1 hP1 hD1 hS1 => ?_)
  have e1 := fun e => va_pl_set (X := []) (e := e) hD ha.1 hn
  simp only [pl0] at e1
  rw [e1, cel_pl10 ha.2.1] at hP1 hD1
  exact kk H1 locs1 ls ⟨hP1, hD1, hS1⟩ hM hl
theorem G_zast (h : Cx X l0 E own cc ret nL rm) {a n : Nat} {i : Int32} {v : Int32} (hd : decode cc pc = .ok (.bastore, 1)) (ha : isA E a 11 n) (hi : vp_in i n) {jx : Nat} (hj : i.toNatClampNeg = jx) {pc' : Nat} (hp : pc + 1 = pc') (kk : G X E cs pc' L st (wi M a jx (vp_nar .boolean v))) : G X E cs pc L (.int v :: .int i :: .ref a :: st) M := by
  subst hp
  subst hj
  obtain ⟨p, l, e, R, s, m, args, below, meth, c, Q, nl⟩ := X
  obtain ⟨hx, hb, hr, hml, hown, hts, hlk, hK, hB, rfl, rfl, rfl, hN, hZ⟩ := h
  intro H locs ls hW hM hl
  obtain ⟨hP, hD, hS⟩ := hW
  obtain ⟨j, hn⟩ := va_pl_get (X := []) (f := cel E M) ha.1
  have hn2 := hn
  rw [pl0, cel_11 ha.2.1] at hn2
  refine va_zast hx hb hK hP hD hS j 2 hn2 rfl (by rw [ha.2.2]; exact hi) hd (fun H1 locs1 hP1 hD1 hS1 => ?_)
  have e1 := fun e => va_pl_set (X := []) (e := e) hD ha.1 hn
  simp only [pl0] at e1
  rw [e1, cel_pl11 ha.2.1] at hP1 hD1
  exact kk H1 locs1 ls ⟨hP1, hD1, hS1⟩ hM hl
end Rows2
end Heap
