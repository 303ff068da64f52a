/-! the law's walk -/
section Law
variable (I : Env1 → Nat → Nat → Mem → Prop)
def al_house (E : Env1) (x m : Nat) (M : Mem) : Prop := ∃ (r : Int32) (M1 M2 : Mem), f_X8_house E M x = some (r, M1) ∧ f_X9_house E M1 m = some (r, M2) ∧ I E x m M2
def al_one (E : Env1) (x m : Nat) (M : Mem) : Prop := ∀ a1 a2 : Int32, ∃ (r : Int32) (M1 M2 : Mem), f_X8_one E M x a1 a2 = some (r, M1) ∧ f_X9_one E M1 m a1 a2 = some (r, M2) ∧ I E x m M2
def al_type (E : Env1) (x m : Nat) (M : Mem) : Prop := ∀ a1 : Int32, ∃ (r : Int32) (M1 M2 : Mem), f_X8_type E M x a1 = some (r, M1) ∧ f_X9_type E M1 m a1 = some (r, M2) ∧ I E x m M2
def al_clear (E : Env1) (x m : Nat) (M : Mem) : Prop := ∃ (r : Int32) (M1 M2 : Mem), f_X8_clear E M x = (r, M1) ∧ f_X9_clear E M1 m = (r, M2) ∧ I E x m M2
def al_read (E : Env1) (x m : Nat) (M : Mem) : Prop := ∃ (r : Int32) (M1 M2 : Mem), f_X8_read E M x = some (r, M1) ∧ f_X9_read E M1 m = some (r, M2) ∧ I E x m M2
def al_meets (E : Env1) (x m : Nat) (M : Mem) : Prop := ∀ a1 a2 : Int32, ∃ (r : Int32) (M1 M2 : Mem), f_X8_meets E M x a1 a2 = some (r, M1) ∧ f_X9_meets E M1 m a1 a2 = some (r, M2) ∧ I E x m M2
def al_goes (E : Env1) (x m : Nat) (M : Mem) : Prop := ∀ a1 a2 : Int32, ∃ (r : Int32) (M1 M2 : Mem), f_X8_goes E M x a1 a2 = some (r, M1) ∧ f_X9_goes E M1 m a1 a2 = some (r, M2) ∧ I E x m M2
def al_waits (E : Env1) (x m : Nat) (M : Mem) : Prop := ∀ a1 : Int32, ∃ (r : Int32) (M1 M2 : Mem), f_X8_waits E M x a1 = some (r, M1) ∧ f_X9_waits E M1 m a1 = some (r, M2) ∧ I E x m M2
def al_carpet (E : Env1) (x m : Nat) (M : Mem) : Prop := ∀ a1 a2 : Int32, ∃ (r : Int32) (M1 M2 : Mem), f_X8_carpet E M x a1 a2 = some (r, M1) ∧ f_X9_carpet E M1 m a1 a2 = some (r, M2) ∧ I E x m M2
def al_step (E : Env1) (x m : Nat) (M : Mem) : Prop := ∀ a1 a2 : Int32, ∃ (r : Int32) (M1 M2 : Mem), f_X8_step E M x a1 a2 = some (r, M1) ∧ f_X9_step E M1 m a1 a2 = some (r, M2) ∧ I E x m M2
def al_undo (E : Env1) (x m : Nat) (M : Mem) : Prop := ∃ (r : Int32) (M1 M2 : Mem), f_X8_undo E M x = some (r, M1) ∧ f_X9_undo E M1 m = some (r, M2) ∧ I E x m M2
def al_of (E : Env1) (x m : Nat) (M : Mem) : Prop := ∀ a1 a2 : Int32, ∃ (r : Int32) (M1 M2 : Mem), f_X8_of E M x a1 a2 = some (r, M1) ∧ f_X9_of E M1 m a1 a2 = some (r, M2) ∧ I E x m M2
def al_about (E : Env1) (x m : Nat) (M : Mem) : Prop := ∀ a1 a2 : Int32, ∃ (r : Int32) (M1 M2 : Mem), f_X8_about E M x a1 a2 = some (r, M1) ∧ f_X9_about E M1 m a1 a2 = some (r, M2) ∧ I E x m M2
def al_asks (E : Env1) (x m : Nat) (M : Mem) : Prop := ∀ a1 a2 a3 : Int32, ∃ (r : Int32) (M1 M2 : Mem), f_X8_asks E M x a1 a2 a3 = some (r, M1) ∧ f_X9_asks E M1 m a1 a2 a3 = some (r, M2) ∧ I E x m M2
def al_word (E : Env1) (x m : Nat) (M : Mem) : Prop := ∀ a1 : Int32, ∃ (r : Int32) (M1 M2 : Mem), f_X8_word E M x a1 = some (r, M1) ∧ f_X9_word E M1 m a1 = some (r, M2) ∧ I E x m M2
def al_high (E : Env1) (x m : Nat) (M : Mem) : Prop := ∀ a1 : Int32, ∃ (r : Int32) (M1 M2 : Mem), f_X8_high E M x a1 = some (r, M1) ∧ f_X9_high E M1 m a1 = some (r, M2) ∧ I E x m M2
def al_hears (E : Env1) (x m : Nat) (M : Mem) : Prop := ∀ a1 a2 : Int32, ∃ (r : Int32) (M1 M2 : Mem), f_X8_hears E M x a1 a2 = some (r, M1) ∧ f_X9_hears E M1 m a1 a2 = some (r, M2) ∧ I E x m M2
def al_then (E : Env1) (x m : Nat) (M : Mem) : Prop := ∀ a1 a2 : Int32, ∃ (r : Int32) (M1 M2 : Mem), f_X8_then E M x a1 a2 = some (r, M1) ∧ f_X9_then E M1 m a1 a2 = some (r, M2) ∧ I E x m M2
def al_plan (E : Env1) (x m : Nat) (M : Mem) : Prop := ∀ a1 a2 a3 : Int32, ∃ (r : Int32) (M1 M2 : Mem), f_X8_plan E M x a1 a2 a3 = some (r, M1) ∧ f_X9_plan E M1 m a1 a2 a3 = some (r, M2) ∧ I E x m M2
def al_seen (E : Env1) (x m : Nat) (M : Mem) : Prop := ∀ a1 a2 a3 : Int32, ∃ (r : Int32) (M1 M2 : Mem), f_X8_seen E M x a1 a2 a3 = some (r, M1) ∧ f_X9_seen E M1 m a1 a2 a3 = some (r, M2) ∧ I E x m M2
def al_may (E : Env1) (x m : Nat) (M : Mem) : Prop := ∀ a1 a2 : Int32, ∃ (r : Int32) (M1 M2 : Mem), f_X8_may E M x a1 a2 = some (r, M1) ∧ f_X9_may E M1 m a1 a2 = some (r, M2) ∧ I E x m M2
def al_note (E : Env1) (x m : Nat) (M : Mem) : Prop := ∀ a1 a2 a3 a4 : Int32, ∃ (r : Int32) (M1 M2 : Mem), f_X8_note E M x a1 a2 a3 a4 = some (r, M1) ∧ f_X9_note E M1 m a1 a2 a3 a4 = some (r, M2) ∧ I E x m M2
def al_mark (E : Env1) (x m : Nat) (M : Mem) : Prop := ∀ a1 a2 a3 a4 : Int32, ∃ (r : Int32) (M1 M2 : Mem), f_X8_mark E M x a1 a2 a3 a4 = some (r, M1) ∧ f_X9_mark E M1 m a1 a2 a3 a4 = some (r, M2) ∧ I E x m M2
def al_forget (E : Env1) (x m : Nat) (M : Mem) : Prop := ∀ a1 : Int32, ∃ (r : Int32) (M1 M2 : Mem), f_X8_forget E M x a1 = (r, M1) ∧ f_X9_forget E M1 m a1 = (r, M2) ∧ I E x m M2
def al_is (E : Env1) (x m : Nat) (M : Mem) : Prop := ∀ a1 : Int32, ∃ (r : Int32) (M1 M2 : Mem), f_X8_is E M x a1 = some (r, M1) ∧ f_X9_is E M1 m a1 = some (r, M2) ∧ I E x m M2
def al_look (E : Env1) (x m : Nat) (M : Mem) : Prop := ∀ a1 : Int32, ∃ (r : Int32) (M1 M2 : Mem), f_X8_look E M x a1 = some (r, M1) ∧ f_X9_look E M1 m a1 = some (r, M2) ∧ I E x m M2
def al_kinds (E : Env1) (x m : Nat) (M : Mem) : Prop := ∀ a1 : Int32, ∃ (r : Int32) (M1 M2 : Mem), f_X8_kinds E M x a1 = some (r, M1) ∧ f_X9_kinds E M1 m a1 = some (r, M2) ∧ I E x m M2
def al_ask (E : Env1) (x m : Nat) (M : Mem) : Prop := ∀ a1 : Int32, ∃ (r : Int32) (M1 M2 : Mem), f_X8_ask E M x a1 = some (r, M1) ∧ f_X9_ask E M1 m a1 = some (r, M2) ∧ I E x m M2
def al_hosts (E : Env1) (x m : Nat) (M : Mem) : Prop := ∀ a1 a2 a3 a4 : Int32, ∃ (r : Int32) (M1 M2 : Mem), f_X8_hosts E M x a1 a2 a3 a4 = some (r, M1) ∧ f_X9_hosts E M1 m a1 a2 a3 a4 = some (r, M2) ∧ I E x m M2
def al_slips (E : Env1) (x m : Nat) (M : Mem) : Prop := ∀ a1 a2 a3 : Int32, ∃ (r : Int32) (M1 M2 : Mem), f_X8_slips E M x a1 a2 a3 = some (r, M1) ∧ f_X9_slips E M1 m a1 a2 a3 = some (r, M2) ∧ I E x m M2
def al_evenings (E : Env1) (x m : Nat) (M : Mem) : Prop := ∀ a1 a2 : Int32, ∃ (r : Int32) (M1 M2 : Mem), f_X8_evenings E M x a1 a2 = some (r, M1) ∧ f_X9_evenings E M1 m a1 a2 = some (r, M2) ∧ I E x m M2
def al_part (E : Env1) (x m : Nat) (M : Mem) : Prop := ∀ a1 : Int32, ∃ (r : Int64) (M1 M2 : Mem), f_X8_part E M x a1 = (r, M1) ∧ f_X9_part E M1 m a1 = (r, M2) ∧ I E x m M2
def al_image (E : Env1) (x m : Nat) (M : Mem) : Prop := ∀ a1 : Int32, ∃ (r : Int32) (M1 M2 : Mem), f_X8_image E M x a1 = some (r, M1) ∧ f_X9_image E M1 m a1 = some (r, M2) ∧ I E x m M2
def al_from (E : Env1) (x m : Nat) (M : Mem) : Prop := ∀ a1 : Int32, ∃ (r : Int32) (M1 M2 : Mem), f_X8_from E M x a1 = some (r, M1) ∧ f_X9_from E M1 m a1 = some (r, M2) ∧ I E x m M2
def al_status (E : Env1) (x m : Nat) (M : Mem) : Prop := ∀ a1 : Int32, ∃ (r : Int32) (M1 M2 : Mem), f_X8_status E M x a1 = (r, M1) ∧ f_X9_status E M1 m a1 = some (r, M2) ∧ I E x m M2
def al_count (E : Env1) (x m : Nat) (M : Mem) : Prop := ∀ a1 : Int32, ∃ (r : Int32) (M1 M2 : Mem), f_X8_count E M x a1 = some (r, M1) ∧ f_X9_count E M1 m a1 = some (r, M2) ∧ I E x m M2
def al_digest (E : Env1) (x m : Nat) (M : Mem) : Prop := ∃ (r : Int64) (M1 M2 : Mem), (f_X8_digest E M x = some r ∧ M1 = M) ∧ f_X9_digest E M1 m = some (r, M2) ∧ I E x m M2
def AlAll (E : Env1) (x m : Nat) : Prop := ∀ M, I E x m M → al_house I E x m M ∧ al_one I E x m M ∧ al_type I E x m M ∧ al_clear I E x m M ∧ al_read I E x m M ∧ al_meets I E x m M ∧ al_goes I E x m M ∧ al_waits I E x m M ∧ al_carpet I E x m M ∧ al_step I E x m M ∧ al_undo I E x m M ∧ al_of I E x m M ∧ al_about I E x m M ∧ al_asks I E x m M ∧ al_word I E x m M ∧ al_high I E x m M ∧ al_hears I E x m M ∧ al_then I E x m M ∧ al_plan I E x m M ∧ al_seen I E x m M ∧ al_may I E x m M ∧ al_note I E x m M ∧ al_mark I E x m M ∧ al_forget I E x m M ∧ al_is I E x m M ∧ al_look I E x m M ∧ al_kinds I E x m M ∧ al_ask I E x m M ∧ al_hosts I E x m M ∧ al_slips I E x m M ∧ al_evenings I E x m M ∧ al_part I E x m M ∧ al_image I E x m M ∧ al_from I E x m M ∧ al_status I E x m M ∧ al_count I E x m M ∧ al_digest I E x m M
variable {I}
theorem lg_cmp_self (x : Int64) : lg_cmp x x = 0 := by simp [lg_cmp]
def LX (X : Ctx) (E : Env1) (b n : Nat) (xs : Nat → Int32) : Prop := match X with
  | (_, _, _, _, s, _, _, _, _, _, _, _) => va_X b n xs s s.heap ∧ b < s.heap.size ∧ ¬ eA E b
section
variable {X : Ctx} {l0 : Launch} {E : Env1} {cs : Nat × Nat} {own : String} {cc : ByteArray} {ret : Option FieldType} {nL pc : Nat} {rm : Room} {L : List (Option Value)} {st : List Value} {M : Mem} {b n : Nat} {xs : Nat → Int32}
theorem G_sld (h : Cx X l0 E own cc ret nL rm) (hLX : LX X E b n xs) {i : Int32} (hi : vp_in i n) (hd : decode cc pc = .ok (.iaload, 1)) {pc' : Nat} (hp : pc + 1 = pc') (kk : G X E cs pc' L (.int (xs (ix i)) :: st) M) : G X E cs pc L (.int i :: .ref b :: st) M := by
  subst hp
  obtain ⟨p, l, e, R, s, m, args, below, meth, c, Q, nl⟩ := X
  obtain ⟨hx, hb, hr, hml, hown, hts, hlk, hK, hB, rfl, rfl, rfl, hN, hZ⟩ := h
  intro H locs ls hW hM hl
  exact va_sld hx hb hLX.1 hLX.2.1 hLX.2.2 hW.2.2 hi hd (kk H locs ls hW hM hl)
theorem G_slen (h : Cx X l0 E own cc ret nL rm) (hLX : LX X E b n xs) (hd : decode cc pc = .ok (.arraylength, 1)) {pc' : Nat} (hp : pc + 1 = pc') (kk : G X E cs pc' L (.int (nI n) :: st) M) : G X E cs pc L (.ref b :: st) M := by
  subst hp
  obtain ⟨p, l, e, R, s, m, args, below, meth, c, Q, nl⟩ := X
  obtain ⟨hx, hb, hr, hml, hown, hts, hlk, hK, hB, rfl, rfl, rfl, hN, hZ⟩ := h
  intro H locs ls hW hM hl
  exact va_slen hx hb hLX.1 hLX.2.1 hLX.2.2 hW.2.2 hd (kk H locs ls hW hM hl)
end
theorem lc_13 {X : Ctx} {l0 : Launch} {E : Env1} {L : List (Option Value)} {st stk as : List Value} {M M' : Mem} {pc q : Nat} {r : Int32} (h : Cx X l0 E RL cL_law (some .boolean) 4 room_1) (hM0 : Met l0 yX8_house (wsA yX8_house cX8_house 2 (some .int)) rm_X8_house (CP E M (.ref q :: as)) (CQi E r M') 0 0 (eA E)) (hd : decode cL_law pc = .ok (.invokevirtual 13, 3)) (hq : isK E q 7) (hstk : stk = as.reverse ++ .ref q :: st) {pc' : Nat} (hp : pc + 3 = pc') (hn : as.length = 0) (hcat : (st.map fun v => v.category).sum ≤ 8) (kk : G X E (220, 3645) pc' L (.int r :: st) M') : G X E (220, 3645) pc L stk M := G_lVi h hM0 (ci := 7) (C := RX8) (T := TX8) (N := 11) rfl (by decide) rfl ⟨by decide +kernel, by decide +kernel, by decide +kernel⟩ (lwg (List.mem_of_getElem? (i := 322) (by decide +kernel)) rfl) (lwg (List.mem_of_getElem? (i := 323) (by decide +kernel)) rfl) (lwg (List.mem_of_getElem? (i := 324) (by decide +kernel)) rfl) (lwg (List.mem_of_getElem? (i := 75) (by decide +kernel)) rfl) (lwg (List.mem_of_getElem? (i := 325) (by decide +kernel)) rfl) hd hq hstk hp ⟨rfl, rfl, (Nat.le_of_ble_eq_true rfl), (Nat.le_of_ble_eq_true rfl)⟩ hn hcat ⟨(Nat.le_of_ble_eq_true rfl), (Nat.le_of_ble_eq_true rfl)⟩ kk
theorem lc_17 {X : Ctx} {l0 : Launch} {E : Env1} {L : List (Option Value)} {st stk as : List Value} {M M' : Mem} {pc q : Nat} {r : Int32} (h : Cx X l0 E RL cL_law (some .boolean) 4 room_1) (hM0 : Met l0 yX9_house (wsA yX9_house cX9_house 2 (some .int)) rm_X9_house (CP E M (.ref q :: as)) (CQi E r M') 0 0 (eA E)) (hd : decode cL_law pc = .ok (.invokevirtual 17, 3)) (hq : isK E q 8) (hstk : stk = as.reverse ++ .ref q :: st) {pc' : Nat} (hp : pc + 3 = pc') (hn : as.length = 0) (hcat : (st.map fun v => v.category).sum ≤ 8) (kk : G X E (220, 3645) pc' L (.int r :: st) M') : G X E (220, 3645) pc L stk M := G_lVi h hM0 (ci := 8) (C := RX9) (T := TX9) (N := 30) rfl (by decide) rfl ⟨by decide +kernel, by decide +kernel, by decide +kernel⟩ (lwg (List.mem_of_getElem? (i := 1023) (by decide +kernel)) rfl) (lwg (List.mem_of_getElem? (i := 1024) (by decide +kernel)) rfl) (lwg (List.mem_of_getElem? (i := 1025) (by decide +kernel)) rfl) (lwg (List.mem_of_getElem? (i := 84) (by decide +kernel)) rfl) (lwg (List.mem_of_getElem? (i := 1026) (by decide +kernel)) rfl) hd hq hstk hp ⟨rfl, rfl, (Nat.le_of_ble_eq_true rfl), (Nat.le_of_ble_eq_true rfl)⟩ hn hcat ⟨(Nat.le_of_ble_eq_true rfl), (Nat.le_of_ble_eq_true rfl)⟩ kk
theorem lc_18 {X : Ctx} {l0 : Launch} {E : Env1} {L : List (Option Value)} {st stk as : List Value} {M M' : Mem} {pc q : Nat} {r : Int32} (h : Cx X l0 E RL cL_law (some .boolean) 4 room_1) (hM0 : Met l0 yX8_one (wsA yX8_one cX8_one 3 (some .int)) rm_X8_one (CP E M (.ref q :: as)) (CQi E r M') 0 0 (eA E)) (hd : decode cL_law pc = .ok (.invokevirtual 18, 3)) (hq : isK E q 7) (hstk : stk = as.reverse ++ .ref q :: st) {pc' : Nat} (hp : pc + 3 = pc') (hn : as.length = 2) (hcat : (st.map fun v => v.category).sum ≤ 8) (kk : G X E (220, 3645) pc' L (.int r :: st) M') : G X E (220, 3645) pc L stk M := G_lVi h hM0 (ci := 7) (C := RX8) (T := TX8) (N := 11) rfl (by decide) rfl ⟨by decide +kernel, by decide +kernel, by decide +kernel⟩ (lwg (List.mem_of_getElem? (i := 335) (by decide +kernel)) rfl) (lwg (List.mem_of_getElem? (i := 336) (by decide +kernel)) rfl) (lwg (List.mem_of_getElem? (i := 337) (by decide +kernel)) rfl) (lwg (List.mem_of_getElem? (i := 75) (by decide +kernel)) rfl) (lwg (List.mem_of_getElem? (i := 338) (by decide +kernel)) rfl) hd hq hstk hp ⟨rfl, rfl, (Nat.le_of_ble_eq_true rfl), (Nat.le_of_ble_eq_true rfl)⟩ hn hcat ⟨(Nat.le_of_ble_eq_true rfl), (Nat.le_of_ble_eq_true rfl)⟩ kk
theorem lc_22 {X : Ctx} {l0 : Launch} {E : Env1} {L : List (Option Value)} {st stk as : List Value} {M M' : Mem} {pc q : Nat} {r : Int32} (h : Cx X l0 E RL cL_law (some .boolean) 4 room_1) (hM0 : Met l0 yX9_one (wsA yX9_one cX9_one 3 (some .int)) rm_X9_one (CP E M (.ref q :: as)) (CQi E r M') 0 0 (eA E)) (hd : decode cL_law pc = .ok (.invokevirtual 22, 3)) (hq : isK E q 8) (hstk : stk = as.reverse ++ .ref q :: st) {pc' : Nat} (hp : pc + 3 = pc') (hn : as.length = 2) (hcat : (st.map fun v => v.category).sum ≤ 8) (kk : G X E (220, 3645) pc' L (.int r :: st) M') : G X E (220, 3645) pc L stk M := G_lVi h hM0 (ci := 8) (C := RX9) (T := TX9) (N := 30) rfl (by decide) rfl ⟨by decide +kernel, by decide +kernel, by decide +kernel⟩ (lwg (List.mem_of_getElem? (i := 1027) (by decide +kernel)) rfl) (lwg (List.mem_of_getElem? (i := 1028) (by decide +kernel)) rfl) (lwg (List.mem_of_getElem? (i := 1029) (by decide +kernel)) rfl) (lwg (List.mem_of_getElem? (i := 84) (by decide +kernel)) rfl) (lwg (List.mem_of_getElem? (i := 1030) (by decide +kernel)) rfl) hd hq hstk hp ⟨rfl, rfl, (Nat.le_of_ble_eq_true rfl), (Nat.le_of_ble_eq_true rfl)⟩ hn hcat ⟨(Nat.le_of_ble_eq_true rfl), (Nat.le_of_ble_eq_true rfl)⟩ kk
theorem lc_23 {X : Ctx} {l0 : Launch} {E : Env1} {L : List (Option Value)} {st stk as : List Value} {M M' : Mem} {pc q : Nat} {r : Int32} (h : Cx X l0 E RL cL_law (some .boolean) 4 room_1) (hM0 : Met l0 yX8_type (wsA yX8_type cX8_type 2 (some .int)) rm_X8_type (CP E M (.ref q :: as)) (CQi E r M') 0 0 (eA E)) (hd : decode cL_law pc = .ok (.invokevirtual 23, 3)) (hq : isK E q 7) (hstk : stk = as.reverse ++ .ref q :: st) {pc' : Nat} (hp : pc + 3 = pc') (hn : as.length = 1) (hcat : (st.map fun v => v.category).sum ≤ 8) (kk : G X E (220, 3645) pc' L (.int r :: st) M') : G X E (220, 3645) pc L stk M := G_lVi h hM0 (ci := 7) (C := RX8) (T := TX8) (N := 11) rfl (by decide) rfl ⟨by decide +kernel, by decide +kernel, by decide +kernel⟩ (lwg (List.mem_of_getElem? (i := 351) (by decide +kernel)) rfl) (lwg (List.mem_of_getElem? (i := 352) (by decide +kernel)) rfl) (lwg (List.mem_of_getElem? (i := 353) (by decide +kernel)) rfl) (lwg (List.mem_of_getElem? (i := 75) (by decide +kernel)) rfl) (lwg (List.mem_of_getElem? (i := 354) (by decide +kernel)) rfl) hd hq hstk hp ⟨rfl, rfl, (Nat.le_of_ble_eq_true rfl), (Nat.le_of_ble_eq_true rfl)⟩ hn hcat ⟨(Nat.le_of_ble_eq_true rfl), (Nat.le_of_ble_eq_true rfl)⟩ kk
theorem lc_27 {X : Ctx} {l0 : Launch} {E : Env1} {L : List (Option Value)} {st stk as : List Value} {M M' : Mem} {pc q : Nat} {r : Int32} (h : Cx X l0 E RL cL_law (some .boolean) 4 room_1) (hM0 : Met l0 yX9_type (wsA yX9_type cX9_type 2 (some .int)) rm_X9_type (CP E M (.ref q :: as)) (CQi E r M') 0 0 (eA E)) (hd : decode cL_law pc = .ok (.invokevirtual 27, 3)) (hq : isK E q 8) (hstk : stk = as.reverse ++ .ref q :: st) {pc' : Nat} (hp : pc + 3 = pc') (hn : as.length = 1) (hcat : (st.map fun v => v.category).sum ≤ 8) (kk : G X E (220, 3645) pc' L (.int r :: st) M') : G X E (220, 3645) pc L stk M := G_lVi h hM0 (ci := 8) (C := RX9) (T := TX9) (N := 30) rfl (by decide) rfl ⟨by decide +kernel, by decide +kernel, by decide +kernel⟩ (lwg (List.mem_of_getElem? (i := 1046) (by decide +kernel)) rfl) (lwg (List.mem_of_getElem? (i := 1047) (by decide +kernel)) rfl) (lwg (List.mem_of_getElem? (i := 1048) (by decide +kernel)) rfl) (lwg (List.mem_of_getElem? (i := 84) (by decide +kernel)) rfl) (lwg (List.mem_of_getElem? (i := 1049) (by decide +kernel)) rfl) hd hq hstk hp ⟨rfl, rfl, (Nat.le_of_ble_eq_true rfl), (Nat.le_of_ble_eq_true rfl)⟩ hn hcat ⟨(Nat.le_of_ble_eq_true rfl), (Nat.le_of_ble_eq_true rfl)⟩ kk
theorem lc_28 {X : Ctx} {l0 : Launch} {E : Env1} {L : List (Option Value)} {st stk as : List Value} {M M' : Mem} {pc q : Nat} {r : Int32} (h : Cx X l0 E RL cL_law (some .boolean) 4 room_1) (hM0 : Met l0 yX8_clear (wsA yX8_clear cX8_clear 2 (some .int)) rm_X8_clear (CP E M (.ref q :: as)) (CQi E r M') 0 0 (eA E)) (hd : decode cL_law pc = .ok (.invokevirtual 28, 3)) (hq : isK E q 7) (hstk : stk = as.reverse ++ .ref q :: st) {pc' : Nat} (hp : pc + 3 = pc') (hn : as.length = 0) (hcat : (st.map fun v => v.category).sum ≤ 8) (kk : G X E (220, 3645) pc' L (.int r :: st) M') : G X E (220, 3645) pc L stk M := G_lVi h hM0 (ci := 7) (C := RX8) (T := TX8) (N := 11) rfl (by decide) rfl ⟨by decide +kernel, by decide +kernel, by decide +kernel⟩ (lwg (List.mem_of_getElem? (i := 360) (by decide +kernel)) rfl) (lwg (List.mem_of_getElem? (i := 361) (by decide +kernel)) rfl) (lwg (List.mem_of_getElem? (i := 362) (by decide +kernel)) rfl) (lwg (List.mem_of_getElem? (i := 75) (by decide +kernel)) rfl) (lwg (List.mem_of_getElem? (i := 363) (by decide +kernel)) rfl) hd hq hstk hp ⟨rfl, rfl, (Nat.le_of_ble_eq_true rfl), (Nat.le_of_ble_eq_true rfl)⟩ hn hcat ⟨(Nat.le_of_ble_eq_true rfl), (Nat.le_of_ble_eq_true rfl)⟩ kk
theorem lc_31 {X : Ctx} {l0 : Launch} {E : Env1} {L : List (Option Value)} {st stk as : List Value} {M M' : Mem} {pc q : Nat} {r : Int32} (h : Cx X l0 E RL cL_law (some .boolean) 4 room_1) (hM0 : Met l0 yX9_clear (wsA yX9_clear cX9_clear 2 (some .int)) rm_X9_clear (CP E M (.ref q :: as)) (CQi E r M') 0 0 (eA E)) (hd : decode cL_law pc = .ok (.invokevirtual 31, 3)) (hq : isK E q 8) (hstk : stk = as.reverse ++ .ref q :: st) {pc' : Nat} (hp : pc + 3 = pc') (hn : as.length = 0) (hcat : (st.map fun v => v.category).sum ≤ 8) (kk : G X E (220, 3645) pc' L (.int r :: st) M') : G X E (220, 3645) pc L stk M := G_lVi h hM0 (ci := 8) (C := RX9) (T := TX9) (N := 30) rfl (by decide) rfl ⟨by decide +kernel, by decide +kernel, by decide +kernel⟩ (lwg (List.mem_of_getElem? (i := 1050) (by decide +kernel)) rfl) (lwg (List.mem_of_getElem? (i := 1051) (by decide +kernel)) rfl) (lwg (List.mem_of_getElem? (i := 1052) (by decide +kernel)) rfl) (lwg (List.mem_of_getElem? (i := 84) (by decide +kernel)) rfl) (lwg (List.mem_of_getElem? (i := 1053) (by decide +kernel)) rfl) hd hq hstk hp ⟨rfl, rfl, (Nat.le_of_ble_eq_true rfl), (Nat.le_of_ble_eq_true rfl)⟩ hn hcat ⟨(Nat.le_of_ble_eq_true rfl), (Nat.le_of_ble_eq_true rfl)⟩ kk
theorem lc_32 {X : Ctx} {l0 : Launch} {E : Env1} {L : List (Option Value)} {st stk as : List Value} {M M' : Mem} {pc q : Nat} {r : Int32} (h : Cx X l0 E RL cL_law (some .boolean) 4 room_1) (hM0 : Met l0 yX8_read (wsA yX8_read cX8_read 2 (some .int)) rm_X8_read (CP E M (.ref q :: as)) (CQi E r M') 0 0 (eA E)) (hd : decode cL_law pc = .ok (.invokevirtual 32, 3)) (hq : isK E q 7) (hstk : stk = as.reverse ++ .ref q :: st) {pc' : Nat} (hp : pc + 3 = pc') (hn : as.length = 0) (hcat : (st.map fun v => v.category).sum ≤ 8) (kk : G X E (220, 3645) pc' L (.int r :: st) M') : G X E (220, 3645) pc L stk M := G_lVi h hM0 (ci := 7) (C := RX8) (T := TX8) (N := 11) rfl (by decide) rfl ⟨by decide +kernel, by decide +kernel, by decide +kernel⟩ (lwg (List.mem_of_getElem? (i := 364) (by decide +kernel)) rfl) (lwg (List.mem_of_getElem? (i := 365) (by decide +kernel)) rfl) (lwg (List.mem_of_getElem? (i := 366) (by decide +kernel)) rfl) (lwg (List.mem_of_getElem? (i := 75) (by decide +kernel)) rfl) (lwg (List.mem_of_getElem? (i := 367) (by decide +kernel)) rfl) hd hq hstk hp ⟨rfl, rfl, (Nat.le_of_ble_eq_true rfl), (Nat.le_of_ble_eq_true rfl)⟩ hn hcat ⟨(Nat.le_of_ble_eq_true rfl), (Nat.le_of_ble_eq_true rfl)⟩ kk
theorem lc_35 {X : Ctx} {l0 : Launch} {E : Env1} {L : List (Option Value)} {st stk as : List Value} {M M' : Mem} {pc q : Nat} {r : Int32} (h : Cx X l0 E RL cL_law (some .boolean) 4 room_1) (hM0 : Met l0 yX9_read (wsA yX9_read cX9_read 2 (some .int)) rm_X9_read (CP E M (.ref q :: as)) (CQi E r M') 0 0 (eA E)) (hd : decode cL_law pc = .ok (.invokevirtual 35, 3)) (hq : isK E q 8) (hstk : stk = as.reverse ++ .ref q :: st) {pc' : Nat} (hp : pc + 3 = pc') (hn : as.length = 0) (hcat : (st.map fun v => v.category).sum ≤ 8) (kk : G X E (220, 3645) pc' L (.int r :: st) M') : G X E (220, 3645) pc L stk M := G_lVi h hM0 (ci := 8) (C := RX9) (T := TX9) (N := 30) rfl (by decide) rfl ⟨by decide +kernel, by decide +kernel, by decide +kernel⟩ (lwg (List.mem_of_getElem? (i := 1054) (by decide +kernel)) rfl) (lwg (List.mem_of_getElem? (i := 1055) (by decide +kernel)) rfl) (lwg (List.mem_of_getElem? (i := 1056) (by decide +kernel)) rfl) (lwg (List.mem_of_getElem? (i := 84) (by decide +kernel)) rfl) (lwg (List.mem_of_getElem? (i := 1057) (by decide +kernel)) rfl) hd hq hstk hp ⟨rfl, rfl, (Nat.le_of_ble_eq_true rfl), (Nat.le_of_ble_eq_true rfl)⟩ hn hcat ⟨(Nat.le_of_ble_eq_true rfl), (Nat.le_of_ble_eq_true rfl)⟩ kk
theorem lc_36 {X : Ctx} {l0 : Launch} {E : Env1} {L : List (Option Value)} {st stk as : List Value} {M M' : Mem} {pc q : Nat} {r : Int32} (h : Cx X l0 E RL cL_law (some .boolean) 4 room_1) (hM0 : Met l0 yX8_meets (wsA yX8_meets cX8_meets 3 (some .int)) rm_X8_meets (CP E M (.ref q :: as)) (CQi E r M') 0 0 (eA E)) (hd : decode cL_law pc = .ok (.invokevirtual 36, 3)) (hq : isK E q 7) (hstk : stk = as.reverse ++ .ref q :: st) {pc' : Nat} (hp : pc + 3 = pc') (hn : as.length = 2) (hcat : (st.map fun v => v.category).sum ≤ 8) (kk : G X E (220, 3645) pc' L (.int r :: st) M') : G X E (220, 3645) pc L stk M := G_lVi h hM0 (ci := 7) (C := RX8) (T := TX8) (N := 11) rfl (by decide) rfl ⟨by decide +kernel, by decide +kernel, by decide +kernel⟩ (lwg (List.mem_of_getElem? (i := 524) (by decide +kernel)) rfl) (lwg (List.mem_of_getElem? (i := 525) (by decide +kernel)) rfl) (lwg (List.mem_of_getElem? (i := 526) (by decide +kernel)) rfl) (lwg (List.mem_of_getElem? (i := 75) (by decide +kernel)) rfl) (lwg (List.mem_of_getElem? (i := 527) (by decide +kernel)) rfl) hd hq hstk hp ⟨rfl, rfl, (Nat.le_of_ble_eq_true rfl), (Nat.le_of_ble_eq_true rfl)⟩ hn hcat ⟨(Nat.le_of_ble_eq_true rfl), (Nat.le_of_ble_eq_true rfl)⟩ kk
theorem lc_39 {X : Ctx} {l0 : Launch} {E : Env1} {L : List (Option Value)} {st stk as : List Value} {M M' : Mem} {pc q : Nat} {r : Int32} (h : Cx X l0 E RL cL_law (some .boolean) 4 room_1) (hM0 : Met l0 yX9_meets (wsA yX9_meets cX9_meets 3 (some .int)) rm_X9_meets (CP E M (.ref q :: as)) (CQi E r M') 0 0 (eA E)) (hd : decode cL_law pc = .ok (.invokevirtual 39, 3)) (hq : isK E q 8) (hstk : stk = as.reverse ++ .ref q :: st) {pc' : Nat} (hp : pc + 3 = pc') (hn : as.length = 2) (hcat : (st.map fun v => v.category).sum ≤ 8) (kk : G X E (220, 3645) pc' L (.int r :: st) M') : G X E (220, 3645) pc L stk M := G_lVi h hM0 (ci := 8) (C := RX9) (T := TX9) (N := 30) rfl (by decide) rfl ⟨by decide +kernel, by decide +kernel, by decide +kernel⟩ (lwg (List.mem_of_getElem? (i := 1147) (by decide +kernel)) rfl) (lwg (List.mem_of_getElem? (i := 1148) (by decide +kernel)) rfl) (lwg (List.mem_of_getElem? (i := 1149) (by decide +kernel)) rfl) (lwg (List.mem_of_getElem? (i := 84) (by decide +kernel)) rfl) (lwg (List.mem_of_getElem? (i := 1150) (by decide +kernel)) rfl) hd hq hstk hp ⟨rfl, rfl, (Nat.le_of_ble_eq_true rfl), (Nat.le_of_ble_eq_true rfl)⟩ hn hcat ⟨(Nat.le_of_ble_eq_true rfl), (Nat.le_of_ble_eq_true rfl)⟩ kk
theorem lc_40 {X : Ctx} {l0 : Launch} {E : Env1} {L : List (Option Value)} {st stk as : List Value} {M M' : Mem} {pc q : Nat} {r : Int32} (h : Cx X l0 E RL cL_law (some .boolean) 4 room_1) (hM0 : Met l0 yX8_goes (wsA yX8_goes cX8_goes 4 (some .int)) rm_X8_goes (CP E M (.ref q :: as)) (CQi E r M') 0 0 (eA E)) (hd : decode cL_law pc = .ok (.invokevirtual 40, 3)) (hq : isK E q 7) (hstk : stk = as.reverse ++ .ref q :: st) {pc' : Nat} (hp : pc + 3 = pc') (hn : as.length = 2) (hcat : (st.map fun v => v.category).sum ≤ 8) (kk : G X E (220, 3645) pc' L (.int r :: st) M') : G X E (220, 3645) pc L stk M := G_lVi h hM0 (ci := 7) (C := RX8) (T := TX8) (N := 11) rfl (by decide) rfl ⟨by decide +kernel, by decide +kernel, by decide +kernel⟩ (lwg (List.mem_of_getElem? (i := 590) (by decide +kernel)) rfl) (lwg (List.mem_of_getElem? (i := 591) (by decide +kernel)) rfl) (lwg (List.mem_of_getElem? (i := 592) (by decide +kernel)) rfl) (lwg (List.mem_of_getElem? (i := 75) (by decide +kernel)) rfl) (lwg (List.mem_of_getElem? (i := 593) (by decide +kernel)) rfl) hd hq hstk hp ⟨rfl, rfl, (Nat.le_of_ble_eq_true rfl), (Nat.le_of_ble_eq_true rfl)⟩ hn hcat ⟨(Nat.le_of_ble_eq_true rfl), (Nat.le_of_ble_eq_true rfl)⟩ kk
theorem lc_43 {X : Ctx} {l0 : Launch} {E : Env1} {L : List (Option Value)} {st stk as : List Value} {M M' : Mem} {pc q : Nat} {r : Int32} (h : Cx X l0 E RL cL_law (some .boolean) 4 room_1) (hM0 : Met l0 yX9_goes (wsA yX9_goes cX9_goes 5 (some .int)) rm_X9_goes (CP E M (.ref q :: as)) (CQi E r M') 0 0 (eA E)) (hd : decode cL_law pc = .ok (.invokevirtual 43, 3)) (hq : isK E q 8) (hstk : stk = as.reverse ++ .ref q :: st) {pc' : Nat} (hp : pc + 3 = pc') (hn : as.length = 2) (hcat : (st.map fun v => v.category).sum ≤ 8) (kk : G X E (220, 3645) pc' L (.int r :: st) M') : G X E (220, 3645) pc L stk M := G_lVi h hM0 (ci := 8) (C := RX9) (T := TX9) (N := 30) rfl (by decide) rfl ⟨by decide +kernel, by decide +kernel, by decide +kernel⟩ (lwg (List.mem_of_getElem? (i := 1199) (by decide +kernel)) rfl) (lwg (List.mem_of_getElem? (i := 1200) (by decide +kernel)) rfl) (lwg (List.mem_of_getElem? (i := 1201) (by decide +kernel)) rfl) (lwg (List.mem_of_getElem? (i := 84) (by decide +kernel)) rfl) (lwg (List.mem_of_getElem? (i := 1202) (by decide +kernel)) rfl) hd hq hstk hp ⟨rfl, rfl, (Nat.le_of_ble_eq_true rfl), (Nat.le_of_ble_eq_true rfl)⟩ hn hcat ⟨(Nat.le_of_ble_eq_true rfl), (Nat.le_of_ble_eq_true rfl)⟩ kk
theorem lc_44 {X : Ctx} {l0 : Launch} {E : Env1} {L : List (Option Value)} {st stk as : List Value} {M M' : Mem} {pc q : Nat} {r : Int32} (h : Cx X l0 E RL cL_law (some .boolean) 4 room_1) (hM0 : Met l0 yX8_waits (wsA yX8_waits cX8_waits 2 (some .int)) rm_X8_waits (CP E M (.ref q :: as)) (CQi E r M') 0 0 (eA E)) (hd : decode cL_law pc = .ok (.invokevirtual 44, 3)) (hq : isK E q 7) (hstk : stk = as.reverse ++ .ref q :: st) {pc' : Nat} (hp : pc + 3 = pc') (hn : as.length = 1) (hcat : (st.map fun v => v.category).sum ≤ 8) (kk : G X E (220, 3645) pc' L (.int r :: st) M') : G X E (220, 3645) pc L stk M := G_lVi h hM0 (ci := 7) (C := RX8) (T := TX8) (N := 11) rfl (by decide) rfl ⟨by decide +kernel, by decide +kernel, by decide +kernel⟩ (lwg (List.mem_of_getElem? (i := 607) (by decide +kernel)) rfl) (lwg (List.mem_of_getElem? (i := 608) (by decide +kernel)) rfl) (lwg (List.mem_of_getElem? (i := 609) (by decide +kernel)) rfl) (lwg (List.mem_of_getElem? (i := 75) (by decide +kernel)) rfl) (lwg (List.mem_of_getElem? (i := 610) (by decide +kernel)) rfl) hd hq hstk hp ⟨rfl, rfl, (Nat.le_of_ble_eq_true rfl), (Nat.le_of_ble_eq_true rfl)⟩ hn hcat ⟨(Nat.le_of_ble_eq_true rfl), (Nat.le_of_ble_eq_true rfl)⟩ kk
theorem lc_47 {X : Ctx} {l0 : Launch} {E : Env1} {L : List (Option Value)} {st stk as : List Value} {M M' : Mem} {pc q : Nat} {r : Int32} (h : Cx X l0 E RL cL_law (some .boolean) 4 room_1) (hM0 : Met l0 yX9_waits (wsA yX9_waits cX9_waits 3 (some .int)) rm_X9_waits (CP E M (.ref q :: as)) (CQi E r M') 0 0 (eA E)) (hd : decode cL_law pc = .ok (.invokevirtual 47, 3)) (hq : isK E q 8) (hstk : stk = as.reverse ++ .ref q :: st) {pc' : Nat} (hp : pc + 3 = pc') (hn : as.length = 1) (hcat : (st.map fun v => v.category).sum ≤ 8) (kk : G X E (220, 3645) pc' L (.int r :: st) M') : G X E (220, 3645) pc L stk M := G_lVi h hM0 (ci := 8) (C := RX9) (T := TX9) (N := 30) rfl (by decide) rfl ⟨by decide +kernel, by decide +kernel, by decide +kernel⟩ (lwg (List.mem_of_getElem? (i := 1207) (by decide +kernel)) rfl) (lwg (List.mem_of_getElem? (i := 1208) (by decide +kernel)) rfl) (lwg (List.mem_of_getElem? (i := 1209) (by decide +kernel)) rfl) (lwg (List.mem_of_getElem? (i := 84) (by decide +kernel)) rfl) (lwg (List.mem_of_getElem? (i := 1210) (by decide +kernel)) rfl) hd hq hstk hp ⟨rfl, rfl, (Nat.le_of_ble_eq_true rfl), (Nat.le_of_ble_eq_true rfl)⟩ hn hcat ⟨(Nat.le_of_ble_eq_true rfl), (Nat.le_of_ble_eq_true rfl)⟩ kk
theorem lc_48 {X : Ctx} {l0 : Launch} {E : Env1} {L : List (Option Value)} {st stk as : List Value} {M M' : Mem} {pc q : Nat} {r : Int32} (h : Cx X l0 E RL cL_law (some .boolean) 4 room_1) (hM0 : Met l0 yX8_carpet (wsA yX8_carpet cX8_carpet 4 (some .int)) rm_X8_carpet (CP E M (.ref q :: as)) (CQi E r M') 0 0 (eA E)) (hd : decode cL_law pc = .ok (.invokevirtual 48, 3)) (hq : isK E q 7) (hstk : stk = as.reverse ++ .ref q :: st) {pc' : Nat} (hp : pc + 3 = pc') (hn : as.length = 2) (hcat : (st.map fun v => v.category).sum ≤ 8) (kk : G X E (220, 3645) pc' L (.int r :: st) M') : G X E (220, 3645) pc L stk M := G_lVi h hM0 (ci := 7) (C := RX8) (T := TX8) (N := 11) rfl (by decide) rfl ⟨by decide +kernel, by decide +kernel, by decide +kernel⟩ (lwg (List.mem_of_getElem? (i := 622) (by decide +kernel)) rfl) (lwg (List.mem_of_getElem? (i := 623) (by decide +kernel)) rfl) (lwg (List.mem_of_getElem? (i := 624) (by decide +kernel)) rfl) (lwg (List.mem_of_getElem? (i := 75) (by decide +kernel)) rfl) (lwg (List.mem_of_getElem? (i := 625) (by decide +kernel)) rfl) hd hq hstk hp ⟨rfl, rfl, (Nat.le_of_ble_eq_true rfl), (Nat.le_of_ble_eq_true rfl)⟩ hn hcat ⟨(Nat.le_of_ble_eq_true rfl), (Nat.le_of_ble_eq_true rfl)⟩ kk
theorem lc_51 {X : Ctx} {l0 : Launch} {E : Env1} {L : List (Option Value)} {st stk as : List Value} {M M' : Mem} {pc q : Nat} {r : Int32} (h : Cx X l0 E RL cL_law (some .boolean) 4 room_1) (hM0 : Met l0 yX9_carpet (wsA yX9_carpet cX9_carpet 3 (some .int)) rm_X9_carpet (CP E M (.ref q :: as)) (CQi E r M') 0 0 (eA E)) (hd : decode cL_law pc = .ok (.invokevirtual 51, 3)) (hq : isK E q 8) (hstk : stk = as.reverse ++ .ref q :: st) {pc' : Nat} (hp : pc + 3 = pc') (hn : as.length = 2) (hcat : (st.map fun v => v.category).sum ≤ 8) (kk : G X E (220, 3645) pc' L (.int r :: st) M') : G X E (220, 3645) pc L stk M := G_lVi h hM0 (ci := 8) (C := RX9) (T := TX9) (N := 30) rfl (by decide) rfl ⟨by decide +kernel, by decide +kernel, by decide +kernel⟩ (lwg (List.mem_of_getElem? (i := 1218) (by decide +kernel)) rfl) (lwg (List.mem_of_getElem? (i := 1219) (by decide +kernel)) rfl) (lwg (List.mem_of_getElem? (i := 1220) (by decide +kernel)) rfl) (lwg (List.mem_of_getElem? (i := 84) (by decide +kernel)) rfl) (lwg (List.mem_of_getElem? (i := 1221) (by decide +kernel)) rfl) hd hq hstk hp ⟨rfl, rfl, (Nat.le_of_ble_eq_true rfl), (Nat.le_of_ble_eq_true rfl)⟩ hn hcat ⟨(Nat.le_of_ble_eq_true rfl), (Nat.le_of_ble_eq_true rfl)⟩ kk
theorem lc_52 {X : Ctx} {l0 : Launch} {E : Env1} {L : List (Option Value)} {st stk as : List Value} {M M' : Mem} {pc q : Nat} {r : Int32} (h : Cx X l0 E RL cL_law (some .boolean) 4 room_1) (hM0 : Met l0 yX8_step (wsA yX8_step cX8_step 4 (some .int)) rm_X8_step (CP E M (.ref q :: as)) (CQi E r M') 0 0 (eA E)) (hd : decode cL_law pc = .ok (.invokevirtual 52, 3)) (hq : isK E q 7) (hstk : stk = as.reverse ++ .ref q :: st) {pc' : Nat} (hp : pc + 3 = pc') (hn : as.length = 2) (hcat : (st.map fun v => v.category).sum ≤ 8) (kk : G X E (220, 3645) pc' L (.int r :: st) M') : G X E (220, 3645) pc L stk M := G_lVi h hM0 (ci := 7) (C := RX8) (T := TX8) (N := 11) rfl (by decide) rfl ⟨by decide +kernel, by decide +kernel, by decide +kernel⟩ (lwg (List.mem_of_getElem? (i := 626) (by decide +kernel)) rfl) (lwg (List.mem_of_getElem? (i := 627) (by decide +kernel)) rfl) (lwg (List.mem_of_getElem? (i := 628) (by decide +kernel)) rfl) (lwg (List.mem_of_getElem? (i := 75) (by decide +kernel)) rfl) (lwg (List.mem_of_getElem? (i := 629) (by decide +kernel)) rfl) hd hq hstk hp ⟨rfl, rfl, (Nat.le_of_ble_eq_true rfl), (Nat.le_of_ble_eq_true rfl)⟩ hn hcat ⟨(Nat.le_of_ble_eq_true rfl), (Nat.le_of_ble_eq_true rfl)⟩ kk
theorem lc_55 {X : Ctx} {l0 : Launch} {E : Env1} {L : List (Option Value)} {st stk as : List Value} {M M' : Mem} {pc q : Nat} {r : Int32} (h : Cx X l0 E RL cL_law (some .boolean) 4 room_1) (hM0 : Met l0 yX9_step (wsA yX9_step cX9_step 5 (some .int)) rm_X9_step (CP E M (.ref q :: as)) (CQi E r M') 0 0 (eA E)) (hd : decode cL_law pc = .ok (.invokevirtual 55, 3)) (hq : isK E q 8) (hstk : stk = as.reverse ++ .ref q :: st) {pc' : Nat} (hp : pc + 3 = pc') (hn : as.length = 2) (hcat : (st.map fun v => v.category).sum ≤ 8) (kk : G X E (220, 3645) pc' L (.int r :: st) M') : G X E (220, 3645) pc L stk M := G_lVi h hM0 (ci := 8) (C := RX9) (T := TX9) (N := 30) rfl (by decide) rfl ⟨by decide +kernel, by decide +kernel, by decide +kernel⟩ (lwg (List.mem_of_getElem? (i := 1222) (by decide +kernel)) rfl) (lwg (List.mem_of_getElem? (i := 1223) (by decide +kernel)) rfl) (lwg (List.mem_of_getElem? (i := 1224) (by decide +kernel)) rfl) (lwg (List.mem_of_getElem? (i := 84) (by decide +kernel)) rfl) (lwg (List.mem_of_getElem? (i := 1225) (by decide +kernel)) rfl) hd hq hstk hp ⟨rfl, rfl, (Nat.le_of_ble_eq_true rfl), (Nat.le_of_ble_eq_true rfl)⟩ hn hcat ⟨(Nat.le_of_ble_eq_true rfl), (Nat.le_of_ble_eq_true rfl)⟩ kk
theorem lc_56 {X : Ctx} {l0 : Launch} {E : Env1} {L : List (Option Value)} {st stk as : List Value} {M M' : Mem} {pc q : Nat} {r : Int32} (h : Cx X l0 E RL cL_law (some .boolean) 4 room_1) (hM0 : Met l0 yX8_undo (wsA yX8_undo cX8_undo 1 (some .int)) rm_X8_undo (CP E M (.ref q :: as)) (CQi E r M') 0 0 (eA E)) (hd : decode cL_law pc = .ok (.invokevirtual 56, 3)) (hq : isK E q 7) (hstk : stk = as.reverse ++ .ref q :: st) {pc' : Nat} (hp : pc + 3 = pc') (hn : as.length = 0) (hcat : (st.map fun v => v.category).sum ≤ 8) (kk : G X E (220, 3645) pc' L (.int r :: st) M') : G X E (220, 3645) pc L stk M := G_lVi h hM0 (ci := 7) (C := RX8) (T := TX8) (N := 11) rfl (by decide) rfl ⟨by decide +kernel, by decide +kernel, by decide +kernel⟩ (lwg (List.mem_of_getElem? (i := 636) (by decide +kernel)) rfl) (lwg (List.mem_of_getElem? (i := 637) (by decide +kernel)) rfl) (lwg (List.mem_of_getElem? (i := 638) (by decide +kernel)) rfl) (lwg (List.mem_of_getElem? (i := 75) (by decide +kernel)) rfl) (lwg (List.mem_of_getElem? (i := 639) (by decide +kernel)) rfl) hd hq hstk hp ⟨rfl, rfl, (Nat.le_of_ble_eq_true rfl), (Nat.le_of_ble_eq_true rfl)⟩ hn hcat ⟨(Nat.le_of_ble_eq_true rfl), (Nat.le_of_ble_eq_true rfl)⟩ kk
theorem lc_59 {X : Ctx} {l0 : Launch} {E : Env1} {L : List (Option Value)} {st stk as : List Value} {M M' : Mem} {pc q : Nat} {r : Int32} (h : Cx X l0 E RL cL_law (some .boolean) 4 room_1) (hM0 : Met l0 yX9_undo (wsA yX9_undo cX9_undo 1 (some .int)) rm_X9_undo (CP E M (.ref q :: as)) (CQi E r M') 0 0 (eA E)) (hd : decode cL_law pc = .ok (.invokevirtual 59, 3)) (hq : isK E q 8) (hstk : stk = as.reverse ++ .ref q :: st) {pc' : Nat} (hp : pc + 3 = pc') (hn : as.length = 0) (hcat : (st.map fun v => v.category).sum ≤ 8) (kk : G X E (220, 3645) pc' L (.int r :: st) M') : G X E (220, 3645) pc L stk M := G_lVi h hM0 (ci := 8) (C := RX9) (T := TX9) (N := 30) rfl (by decide) rfl ⟨by decide +kernel, by decide +kernel, by decide +kernel⟩ (lwg (List.mem_of_getElem? (i := 1230) (by decide +kernel)) rfl) (lwg (List.mem_of_getElem? (i := 1231) (by decide +kernel)) rfl) (lwg (List.mem_of_getElem? (i := 1232) (by decide +kernel)) rfl) (lwg (List.mem_of_getElem? (i := 84) (by decide +kernel)) rfl) (lwg (List.mem_of_getElem? (i := 1233) (by decide +kernel)) rfl) hd hq hstk hp ⟨rfl, rfl, (Nat.le_of_ble_eq_true rfl), (Nat.le_of_ble_eq_true rfl)⟩ hn hcat ⟨(Nat.le_of_ble_eq_true rfl), (Nat.le_of_ble_eq_true rfl)⟩ kk
theorem lc_60 {X : Ctx} {l0 : Launch} {E : Env1} {L : List (Option Value)} {st stk as : List Value} {M M' : Mem} {pc q : Nat} {r : Int32} (h : Cx X l0 E RL cL_law (some .boolean) 4 room_1) (hM0 : Met l0 yX8_of (wsA yX8_of cX8_of 3 (some .int)) rm_X8_of (CP E M (.ref q :: as)) (CQi E r M') 0 0 (eA E)) (hd : decode cL_law pc = .ok (.invokevirtual 60, 3)) (hq : isK E q 7) (hstk : stk = as.reverse ++ .ref q :: st) {pc' : Nat} (hp : pc + 3 = pc') (hn : as.length = 2) (hcat : (st.map fun v => v.category).sum ≤ 8) (kk : G X E (220, 3645) pc' L (.int r :: st) M') : G X E (220, 3645) pc L stk M := G_lVi h hM0 (ci := 7) (C := RX8) (T := TX8) (N := 11) rfl (by decide) rfl ⟨by decide +kernel, by decide +kernel, by decide +kernel⟩ (lwg (List.mem_of_getElem? (i := 644) (by decide +kernel)) rfl) (lwg (List.mem_of_getElem? (i := 645) (by decide +kernel)) rfl) (lwg (List.mem_of_getElem? (i := 646) (by decide +kernel)) rfl) (lwg (List.mem_of_getElem? (i := 75) (by decide +kernel)) rfl) (lwg (List.mem_of_getElem? (i := 647) (by decide +kernel)) rfl) hd hq hstk hp ⟨rfl, rfl, (Nat.le_of_ble_eq_true rfl), (Nat.le_of_ble_eq_true rfl)⟩ hn hcat ⟨(Nat.le_of_ble_eq_true rfl), (Nat.le_of_ble_eq_true rfl)⟩ kk
theorem lc_63 {X : Ctx} {l0 : Launch} {E : Env1} {L : List (Option Value)} {st stk as : List Value} {M M' : Mem} {pc q : Nat} {r : Int32} (h : Cx X l0 E RL cL_law (some .boolean) 4 room_1) (hM0 : Met l0 yX9_of (wsA yX9_of cX9_of 3 (some .int)) rm_X9_of (CP E M (.ref q :: as)) (CQi E r M') 0 0 (eA E)) (hd : decode cL_law pc = .ok (.invokevirtual 63, 3)) (hq : isK E q 8) (hstk : stk = as.reverse ++ .ref q :: st) {pc' : Nat} (hp : pc + 3 = pc') (hn : as.length = 2) (hcat : (st.map fun v => v.category).sum ≤ 8) (kk : G X E (220, 3645) pc' L (.int r :: st) M') : G X E (220, 3645) pc L stk M := G_lVi h hM0 (ci := 8) (C := RX9) (T := TX9) (N := 30) rfl (by decide) rfl ⟨by decide +kernel, by decide +kernel, by decide +kernel⟩ (lwg (List.mem_of_getElem? (i := 1234) (by decide +kernel)) rfl) (lwg (List.mem_of_getElem? (i := 1235) (by decide +kernel)) rfl) (lwg (List.mem_of_getElem? (i := 1236) (by decide +kernel)) rfl) (lwg (List.mem_of_getElem? (i := 84) (by decide +kernel)) rfl) (lwg (List.mem_of_getElem? (i := 1237) (by decide +kernel)) rfl) hd hq hstk hp ⟨rfl, rfl, (Nat.le_of_ble_eq_true rfl), (Nat.le_of_ble_eq_true rfl)⟩ hn hcat ⟨(Nat.le_of_ble_eq_true rfl), (Nat.le_of_ble_eq_true rfl)⟩ kk
theorem lc_64 {X : Ctx} {l0 : Launch} {E : Env1} {L : List (Option Value)} {st stk as : List Value} {M M' : Mem} {pc q : Nat} {r : Int32} (h : Cx X l0 E RL cL_law (some .boolean) 4 room_1) (hM0 : Met l0 yX8_about (wsA yX8_about cX8_about 3 (some .int)) rm_X8_about (CP E M (.ref q :: as)) (CQi E r M') 0 0 (eA E)) (hd : decode cL_law pc = .ok (.invokevirtual 64, 3)) (hq : isK E q 7) (hstk : stk = as.reverse ++ .ref q :: st) {pc' : Nat} (hp : pc + 3 = pc') (hn : as.length = 2) (hcat : (st.map fun v => v.category).sum ≤ 8) (kk : G X E (220, 3645) pc' L (.int r :: st) M') : G X E (220, 3645) pc L stk M := G_lVi h hM0 (ci := 7) (C := RX8) (T := TX8) (N := 11) rfl (by decide) rfl ⟨by decide +kernel, by decide +kernel, by decide +kernel⟩ (lwg (List.mem_of_getElem? (i := 648) (by decide +kernel)) rfl) (lwg (List.mem_of_getElem? (i := 649) (by decide +kernel)) rfl) (lwg (List.mem_of_getElem? (i := 650) (by decide +kernel)) rfl) (lwg (List.mem_of_getElem? (i := 75) (by decide +kernel)) rfl) (lwg (List.mem_of_getElem? (i := 651) (by decide +kernel)) rfl) hd hq hstk hp ⟨rfl, rfl, (Nat.le_of_ble_eq_true rfl), (Nat.le_of_ble_eq_true rfl)⟩ hn hcat ⟨(Nat.le_of_ble_eq_true rfl), (Nat.le_of_ble_eq_true rfl)⟩ kk
theorem lc_67 {X : Ctx} {l0 : Launch} {E : Env1} {L : List (Option Value)} {st stk as : List Value} {M M' : Mem} {pc q : Nat} {r : Int32} (h : Cx X l0 E RL cL_law (some .boolean) 4 room_1) (hM0 : Met l0 yX9_about (wsA yX9_about cX9_about 3 (some .int)) rm_X9_about (CP E M (.ref q :: as)) (CQi E r M') 0 0 (eA E)) (hd : decode cL_law pc = .ok (.invokevirtual 67, 3)) (hq : isK E q 8) (hstk : stk = as.reverse ++ .ref q :: st) {pc' : Nat} (hp : pc + 3 = pc') (hn : as.length = 2) (hcat : (st.map fun v => v.category).sum ≤ 8) (kk : G X E (220, 3645) pc' L (.int r :: st) M') : G X E (220, 3645) pc L stk M := G_lVi h hM0 (ci := 8) (C := RX9) (T := TX9) (N := 30) rfl (by decide) rfl ⟨by decide +kernel, by decide +kernel, by decide +kernel⟩ (lwg (List.mem_of_getElem? (i := 1238) (by decide +kernel)) rfl) (lwg (List.mem_of_getElem? (i := 1239) (by decide +kernel)) rfl) (lwg (List.mem_of_getElem? (i := 1240) (by decide +kernel)) rfl) (lwg (List.mem_of_getElem? (i := 84) (by decide +kernel)) rfl) (lwg (List.mem_of_getElem? (i := 1241) (by decide +kernel)) rfl) hd hq hstk hp ⟨rfl, rfl, (Nat.le_of_ble_eq_true rfl), (Nat.le_of_ble_eq_true rfl)⟩ hn hcat ⟨(Nat.le_of_ble_eq_true rfl), (Nat.le_of_ble_eq_true rfl)⟩ kk
theorem lc_68 {X : Ctx} {l0 : Launch} {E : Env1} {L : List (Option Value)} {st stk as : List Value} {M M' : Mem} {pc q : Nat} {r : Int32} (h : Cx X l0 E RL cL_law (some .boolean) 4 room_1) (hM0 : Met l0 yX8_asks (wsA yX8_asks cX8_asks 6 (some .int)) rm_X8_asks (CP E M (.ref q :: as)) (CQi E r M') 0 0 (eA E)) (hd : decode cL_law pc = .ok (.invokevirtual 68, 3)) (hq : isK E q 7) (hstk : stk = as.reverse ++ .ref q :: st) {pc' : Nat} (hp : pc + 3 = pc') (hn : as.length = 3) (hcat : (st.map fun v => v.category).sum ≤ 8) (kk : G X E (220, 3645) pc' L (.int r :: st) M') : G X E (220, 3645) pc L stk M := G_lVi h hM0 (ci := 7) (C := RX8) (T := TX8) (N := 11) rfl (by decide) rfl ⟨by decide +kernel, by decide +kernel, by decide +kernel⟩ (lwg (List.mem_of_getElem? (i := 652) (by decide +kernel)) rfl) (lwg (List.mem_of_getElem? (i := 653) (by decide +kernel)) rfl) (lwg (List.mem_of_getElem? (i := 654) (by decide +kernel)) rfl) (lwg (List.mem_of_getElem? (i := 75) (by decide +kernel)) rfl) (lwg (List.mem_of_getElem? (i := 655) (by decide +kernel)) rfl) hd hq hstk hp ⟨rfl, rfl, (Nat.le_of_ble_eq_true rfl), (Nat.le_of_ble_eq_true rfl)⟩ hn hcat ⟨(Nat.le_of_ble_eq_true rfl), (Nat.le_of_ble_eq_true rfl)⟩ kk
theorem lc_72 {X : Ctx} {l0 : Launch} {E : Env1} {L : List (Option Value)} {st stk as : List Value} {M M' : Mem} {pc q : Nat} {r : Int32} (h : Cx X l0 E RL cL_law (some .boolean) 4 room_1) (hM0 : Met l0 yX9_asks (wsA yX9_asks cX9_asks 5 (some .int)) rm_X9_asks (CP E M (.ref q :: as)) (CQi E r M') 0 0 (eA E)) (hd : decode cL_law pc = .ok (.invokevirtual 72, 3)) (hq : isK E q 8) (hstk : stk = as.reverse ++ .ref q :: st) {pc' : Nat} (hp : pc + 3 = pc') (hn : as.length = 3) (hcat : (st.map fun v => v.category).sum ≤ 8) (kk : G X E (220, 3645) pc' L (.int r :: st) M') : G X E (220, 3645) pc L stk M := G_lVi h hM0 (ci := 8) (C := RX9) (T := TX9) (N := 30) rfl (by decide) rfl ⟨by decide +kernel, by decide +kernel, by decide +kernel⟩ (lwg (List.mem_of_getElem? (i := 1242) (by decide +kernel)) rfl) (lwg (List.mem_of_getElem? (i := 1243) (by decide +kernel)) rfl) (lwg (List.mem_of_getElem? (i := 1244) (by decide +kernel)) rfl) (lwg (List.mem_of_getElem? (i := 84) (by decide +kernel)) rfl) (lwg (List.mem_of_getElem? (i := 1245) (by decide +kernel)) rfl) hd hq hstk hp ⟨rfl, rfl, (Nat.le_of_ble_eq_true rfl), (Nat.le_of_ble_eq_true rfl)⟩ hn hcat ⟨(Nat.le_of_ble_eq_true rfl), (Nat.le_of_ble_eq_true rfl)⟩ kk
theorem lc_73 {X : Ctx} {l0 : Launch} {E : Env1} {L : List (Option Value)} {st stk as : List Value} {M M' : Mem} {pc q : Nat} {r : Int32} (h : Cx X l0 E RL cL_law (some .boolean) 4 room_1) (hM0 : Met l0 yX8_word (wsA yX8_word cX8_word 2 (some .int)) rm_X8_word (CP E M (.ref q :: as)) (CQi E r M') 0 0 (eA E)) (hd : decode cL_law pc = .ok (.invokevirtual 73, 3)) (hq : isK E q 7) (hstk : stk = as.reverse ++ .ref q :: st) {pc' : Nat} (hp : pc + 3 = pc') (hn : as.length = 1) (hcat : (st.map fun v => v.category).sum ≤ 8) (kk : G X E (220, 3645) pc' L (.int r :: st) M') : G X E (220, 3645) pc L stk M := G_lVi h hM0 (ci := 7) (C := RX8) (T := TX8) (N := 11) rfl (by decide) rfl ⟨by decide +kernel, by decide +kernel, by decide +kernel⟩ (lwg (List.mem_of_getElem? (i := 660) (by decide +kernel)) rfl) (lwg (List.mem_of_getElem? (i := 661) (by decide +kernel)) rfl) (lwg (List.mem_of_getElem? (i := 662) (by decide +kernel)) rfl) (lwg (List.mem_of_getElem? (i := 75) (by decide +kernel)) rfl) (lwg (List.mem_of_getElem? (i := 663) (by decide +kernel)) rfl) hd hq hstk hp ⟨rfl, rfl, (Nat.le_of_ble_eq_true rfl), (Nat.le_of_ble_eq_true rfl)⟩ hn hcat ⟨(Nat.le_of_ble_eq_true rfl), (Nat.le_of_ble_eq_true rfl)⟩ kk
theorem lc_76 {X : Ctx} {l0 : Launch} {E : Env1} {L : List (Option Value)} {st stk as : List Value} {M M' : Mem} {pc q : Nat} {r : Int32} (h : Cx X l0 E RL cL_law (some .boolean) 4 room_1) (hM0 : Met l0 yX9_word (wsA yX9_word cX9_word 2 (some .int)) rm_X9_word (CP E M (.ref q :: as)) (CQi E r M') 0 0 (eA E)) (hd : decode cL_law pc = .ok (.invokevirtual 76, 3)) (hq : isK E q 8) (hstk : stk = as.reverse ++ .ref q :: st) {pc' : Nat} (hp : pc + 3 = pc') (hn : as.length = 1) (hcat : (st.map fun v => v.category).sum ≤ 8) (kk : G X E (220, 3645) pc' L (.int r :: st) M') : G X E (220, 3645) pc L stk M := G_lVi h hM0 (ci := 8) (C := RX9) (T := TX9) (N := 30) rfl (by decide) rfl ⟨by decide +kernel, by decide +kernel, by decide +kernel⟩ (lwg (List.mem_of_getElem? (i := 1246) (by decide +kernel)) rfl) (lwg (List.mem_of_getElem? (i := 1247) (by decide +kernel)) rfl) (lwg (List.mem_of_getElem? (i := 1248) (by decide +kernel)) rfl) (lwg (List.mem_of_getElem? (i := 84) (by decide +kernel)) rfl) (lwg (List.mem_of_getElem? (i := 1249) (by decide +kernel)) rfl) hd hq hstk hp ⟨rfl, rfl, (Nat.le_of_ble_eq_true rfl), (Nat.le_of_ble_eq_true rfl)⟩ hn hcat ⟨(Nat.le_of_ble_eq_true rfl), (Nat.le_of_ble_eq_true rfl)⟩ kk
theorem lc_77 {X : Ctx} {l0 : Launch} {E : Env1} {L : List (Option Value)} {st stk as : List Value} {M M' : Mem} {pc q : Nat} {r : Int32} (h : Cx X l0 E RL cL_law (some .boolean) 4 room_1) (hM0 : Met l0 yX8_high (wsA yX8_high cX8_high 2 (some .int)) rm_X8_high (CP E M (.ref q :: as)) (CQi E r M') 0 0 (eA E)) (hd : decode cL_law pc = .ok (.invokevirtual 77, 3)) (hq : isK E q 7) (hstk : stk = as.reverse ++ .ref q :: st) {pc' : Nat} (hp : pc + 3 = pc') (hn : as.length = 1) (hcat : (st.map fun v => v.category).sum ≤ 8) (kk : G X E (220, 3645) pc' L (.int r :: st) M') : G X E (220, 3645) pc L stk M := G_lVi h hM0 (ci := 7) (C := RX8) (T := TX8) (N := 11) rfl (by decide) rfl ⟨by decide +kernel, by decide +kernel, by decide +kernel⟩ (lwg (List.mem_of_getElem? (i := 665) (by decide +kernel)) rfl) (lwg (List.mem_of_getElem? (i := 666) (by decide +kernel)) rfl) (lwg (List.mem_of_getElem? (i := 667) (by decide +kernel)) rfl) (lwg (List.mem_of_getElem? (i := 75) (by decide +kernel)) rfl) (lwg (List.mem_of_getElem? (i := 668) (by decide +kernel)) rfl) hd hq hstk hp ⟨rfl, rfl, (Nat.le_of_ble_eq_true rfl), (Nat.le_of_ble_eq_true rfl)⟩ hn hcat ⟨(Nat.le_of_ble_eq_true rfl), (Nat.le_of_ble_eq_true rfl)⟩ kk
theorem lc_80 {X : Ctx} {l0 : Launch} {E : Env1} {L : List (Option Value)} {st stk as : List Value} {M M' : Mem} {pc q : Nat} {r : Int32} (h : Cx X l0 E RL cL_law (some .boolean) 4 room_1) (hM0 : Met l0 yX9_high (wsA yX9_high cX9_high 3 (some .int)) rm_X9_high (CP E M (.ref q :: as)) (CQi E r M') 0 0 (eA E)) (hd : decode cL_law pc = .ok (.invokevirtual 80, 3)) (hq : isK E q 8) (hstk : stk = as.reverse ++ .ref q :: st) {pc' : Nat} (hp : pc + 3 = pc') (hn : as.length = 1) (hcat : (st.map fun v => v.category).sum ≤ 8) (kk : G X E (220, 3645) pc' L (.int r :: st) M') : G X E (220, 3645) pc L stk M := G_lVi h hM0 (ci := 8) (C := RX9) (T := TX9) (N := 30) rfl (by decide) rfl ⟨by decide +kernel, by decide +kernel, by decide +kernel⟩ (lwg (List.mem_of_getElem? (i := 1250) (by decide +kernel)) rfl) (lwg (List.mem_of_getElem? (i := 1251) (by decide +kernel)) rfl) (lwg (List.mem_of_getElem? (i := 1252) (by decide +kernel)) rfl) (lwg (List.mem_of_getElem? (i := 84) (by decide +kernel)) rfl) (lwg (List.mem_of_getElem? (i := 1253) (by decide +kernel)) rfl) hd hq hstk hp ⟨rfl, rfl, (Nat.le_of_ble_eq_true rfl), (Nat.le_of_ble_eq_true rfl)⟩ hn hcat ⟨(Nat.le_of_ble_eq_true rfl), (Nat.le_of_ble_eq_true rfl)⟩ kk
theorem lc_81 {X : Ctx} {l0 : Launch} {E : Env1} {L : List (Option Value)} {st stk as : List Value} {M M' : Mem} {pc q : Nat} {r : Int32} (h : Cx X l0 E RL cL_law (some .boolean) 4 room_1) (hM0 : Met l0 yX8_hears (wsA yX8_hears cX8_hears 5 (some .int)) rm_X8_hears (CP E M (.ref q :: as)) (CQi E r M') 0 0 (eA E)) (hd : decode cL_law pc = .ok (.invokevirtual 81, 3)) (hq : isK E q 7) (hstk : stk = as.reverse ++ .ref q :: st) {pc' : Nat} (hp : pc + 3 = pc') (hn : as.length = 2) (hcat : (st.map fun v => v.category).sum ≤ 8) (kk : G X E (220, 3645) pc' L (.int r :: st) M') : G X E (220, 3645) pc L stk M := G_lVi h hM0 (ci := 7) (C := RX8) (T := TX8) (N := 11) rfl (by decide) rfl ⟨by decide +kernel, by decide +kernel, by decide +kernel⟩ (lwg (List.mem_of_getElem? (i := 673) (by decide +kernel)) rfl) (lwg (List.mem_of_getElem? (i := 674) (by decide +kernel)) rfl) (lwg (List.mem_of_getElem? (i := 675) (by decide +kernel)) rfl) (lwg (List.mem_of_getElem? (i := 75) (by decide +kernel)) rfl) (lwg (List.mem_of_getElem? (i := 676) (by decide +kernel)) rfl) hd hq hstk hp ⟨rfl, rfl, (Nat.le_of_ble_eq_true rfl), (Nat.le_of_ble_eq_true rfl)⟩ hn hcat ⟨(Nat.le_of_ble_eq_true rfl), (Nat.le_of_ble_eq_true rfl)⟩ kk
theorem lc_84 {X : Ctx} {l0 : Launch} {E : Env1} {L : List (Option Value)} {st stk as : List Value} {M M' : Mem} {pc q : Nat} {r : Int32} (h : Cx X l0 E RL cL_law (some .boolean) 4 room_1) (hM0 : Met l0 yX9_hears (wsA yX9_hears cX9_hears 5 (some .int)) rm_X9_hears (CP E M (.ref q :: as)) (CQi E r M') 0 0 (eA E)) (hd : decode cL_law pc = .ok (.invokevirtual 84, 3)) (hq : isK E q 8) (hstk : stk = as.reverse ++ .ref q :: st) {pc' : Nat} (hp : pc + 3 = pc') (hn : as.length = 2) (hcat : (st.map fun v => v.category).sum ≤ 8) (kk : G X E (220, 3645) pc' L (.int r :: st) M') : G X E (220, 3645) pc L stk M := G_lVi h hM0 (ci := 8) (C := RX9) (T := TX9) (N := 30) rfl (by decide) rfl ⟨by decide +kernel, by decide +kernel, by decide +kernel⟩ (lwg (List.mem_of_getElem? (i := 1254) (by decide +kernel)) rfl) (lwg (List.mem_of_getElem? (i := 1255) (by decide +kernel)) rfl) (lwg (List.mem_of_getElem? (i := 1256) (by decide +kernel)) rfl) (lwg (List.mem_of_getElem? (i := 84) (by decide +kernel)) rfl) (lwg (List.mem_of_getElem? (i := 1257) (by decide +kernel)) rfl) hd hq hstk hp ⟨rfl, rfl, (Nat.le_of_ble_eq_true rfl), (Nat.le_of_ble_eq_true rfl)⟩ hn hcat ⟨(Nat.le_of_ble_eq_true rfl), (Nat.le_of_ble_eq_true rfl)⟩ kk
theorem lc_85 {X : Ctx} {l0 : Launch} {E : Env1} {L : List (Option Value)} {st stk as : List Value} {M M' : Mem} {pc q : Nat} {r : Int32} (h : Cx X l0 E RL cL_law (some .boolean) 4 room_1) (hM0 : Met l0 yX8_then (wsA yX8_then cX8_then 5 (some .int)) rm_X8_then (CP E M (.ref q :: as)) (CQi E r M') 0 0 (eA E)) (hd : decode cL_law pc = .ok (.invokevirtual 85, 3)) (hq : isK E q 7) (hstk : stk = as.reverse ++ .ref q :: st) {pc' : Nat} (hp : pc + 3 = pc') (hn : as.length = 2) (hcat : (st.map fun v => v.category).sum ≤ 8) (kk : G X E (220, 3645) pc' L (.int r :: st) M') : G X E (220, 3645) pc L stk M := G_lVi h hM0 (ci := 7) (C := RX8) (T := TX8) (N := 11) rfl (by decide) rfl ⟨by decide +kernel, by decide +kernel, by decide +kernel⟩ (lwg (List.mem_of_getElem? (i := 678) (by decide +kernel)) rfl) (lwg (List.mem_of_getElem? (i := 679) (by decide +kernel)) rfl) (lwg (List.mem_of_getElem? (i := 680) (by decide +kernel)) rfl) (lwg (List.mem_of_getElem? (i := 75) (by decide +kernel)) rfl) (lwg (List.mem_of_getElem? (i := 681) (by decide +kernel)) rfl) hd hq hstk hp ⟨rfl, rfl, (Nat.le_of_ble_eq_true rfl), (Nat.le_of_ble_eq_true rfl)⟩ hn hcat ⟨(Nat.le_of_ble_eq_true rfl), (Nat.le_of_ble_eq_true rfl)⟩ kk
theorem lc_88 {X : Ctx} {l0 : Launch} {E : Env1} {L : List (Option Value)} {st stk as : List Value} {M M' : Mem} {pc q : Nat} {r : Int32} (h : Cx X l0 E RL cL_law (some .boolean) 4 room_1) (hM0 : Met l0 yX9_then (wsA yX9_then cX9_then 4 (some .int)) rm_X9_then (CP E M (.ref q :: as)) (CQi E r M') 0 0 (eA E)) (hd : decode cL_law pc = .ok (.invokevirtual 88, 3)) (hq : isK E q 8) (hstk : stk = as.reverse ++ .ref q :: st) {pc' : Nat} (hp : pc + 3 = pc') (hn : as.length = 2) (hcat : (st.map fun v => v.category).sum ≤ 8) (kk : G X E (220, 3645) pc' L (.int r :: st) M') : G X E (220, 3645) pc L stk M := G_lVi h hM0 (ci := 8) (C := RX9) (T := TX9) (N := 30) rfl (by decide) rfl ⟨by decide +kernel, by decide +kernel, by decide +kernel⟩ (lwg (List.mem_of_getElem? (i := 1258) (by decide +kernel)) rfl) (lwg (List.mem_of_getElem? (i := 1259) (by decide +kernel)) rfl) (lwg (List.mem_of_getElem? (i := 1260) (by decide +kernel)) rfl) (lwg (List.mem_of_getElem? (i := 84) (by decide +kernel)) rfl) (lwg (List.mem_of_getElem? (i := 1261) (by decide +kernel)) rfl) hd hq hstk hp ⟨rfl, rfl, (Nat.le_of_ble_eq_true rfl), (Nat.le_of_ble_eq_true rfl)⟩ hn hcat ⟨(Nat.le_of_ble_eq_true rfl), (Nat.le_of_ble_eq_true rfl)⟩ kk
theorem lc_89 {X : Ctx} {l0 : Launch} {E : Env1} {L : List (Option Value)} {st stk as : List Value} {M M' : Mem} {pc q : Nat} {r : Int32} (h : Cx X l0 E RL cL_law (some .boolean) 4 room_1) (hM0 : Met l0 yX8_plan (wsA yX8_plan cX8_plan 5 (some .int)) rm_X8_plan (CP E M (.ref q :: as)) (CQi E r M') 0 0 (eA E)) (hd : decode cL_law pc = .ok (.invokevirtual 89, 3)) (hq : isK E q 7) (hstk : stk = as.reverse ++ .ref q :: st) {pc' : Nat} (hp : pc + 3 = pc') (hn : as.length = 3) (hcat : (st.map fun v => v.category).sum ≤ 8) (kk : G X E (220, 3645) pc' L (.int r :: st) M') : G X E (220, 3645) pc L stk M := G_lVi h hM0 (ci := 7) (C := RX8) (T := TX8) (N := 11) rfl (by decide) rfl ⟨by decide +kernel, by decide +kernel, by decide +kernel⟩ (lwg (List.mem_of_getElem? (i := 682) (by decide +kernel)) rfl) (lwg (List.mem_of_getElem? (i := 683) (by decide +kernel)) rfl) (lwg (List.mem_of_getElem? (i := 684) (by decide +kernel)) rfl) (lwg (List.mem_of_getElem? (i := 75) (by decide +kernel)) rfl) (lwg (List.mem_of_getElem? (i := 685) (by decide +kernel)) rfl) hd hq hstk hp ⟨rfl, rfl, (Nat.le_of_ble_eq_true rfl), (Nat.le_of_ble_eq_true rfl)⟩ hn hcat ⟨(Nat.le_of_ble_eq_true rfl), (Nat.le_of_ble_eq_true rfl)⟩ kk
theorem lc_92 {X : Ctx} {l0 : Launch} {E : Env1} {L : List (Option Value)} {st stk as : List Value} {M M' : Mem} {pc q : Nat} {r : Int32} (h : Cx X l0 E RL cL_law (some .boolean) 4 room_1) (hM0 : Met l0 yX9_plan (wsA yX9_plan cX9_plan 8 (some .int)) rm_X9_plan (CP E M (.ref q :: as)) (CQi E r M') 0 0 (eA E)) (hd : decode cL_law pc = .ok (.invokevirtual 92, 3)) (hq : isK E q 8) (hstk : stk = as.reverse ++ .ref q :: st) {pc' : Nat} (hp : pc + 3 = pc') (hn : as.length = 3) (hcat : (st.map fun v => v.category).sum ≤ 8) (kk : G X E (220, 3645) pc' L (.int r :: st) M') : G X E (220, 3645) pc L stk M := G_lVi h hM0 (ci := 8) (C := RX9) (T := TX9) (N := 30) rfl (by decide) rfl ⟨by decide +kernel, by decide +kernel, by decide +kernel⟩ (lwg (List.mem_of_getElem? (i := 1262) (by decide +kernel)) rfl) (lwg (List.mem_of_getElem? (i := 1263) (by decide +kernel)) rfl) (lwg (List.mem_of_getElem? (i := 1264) (by decide +kernel)) rfl) (lwg (List.mem_of_getElem? (i := 84) (by decide +kernel)) rfl) (lwg (List.mem_of_getElem? (i := 1265) (by decide +kernel)) rfl) hd hq hstk hp ⟨rfl, rfl, (Nat.le_of_ble_eq_true rfl), (Nat.le_of_ble_eq_true rfl)⟩ hn hcat ⟨(Nat.le_of_ble_eq_true rfl), (Nat.le_of_ble_eq_true rfl)⟩ kk
theorem lc_93 {X : Ctx} {l0 : Launch} {E : Env1} {L : List (Option Value)} {st stk as : List Value} {M M' : Mem} {pc q : Nat} {r : Int32} (h : Cx X l0 E RL cL_law (some .boolean) 4 room_1) (hM0 : Met l0 yX8_seen (wsA yX8_seen cX8_seen 4 (some .int)) rm_X8_seen (CP E M (.ref q :: as)) (CQi E r M') 0 0 (eA E)) (hd : decode cL_law pc = .ok (.invokevirtual 93, 3)) (hq : isK E q 7) (hstk : stk = as.reverse ++ .ref q :: st) {pc' : Nat} (hp : pc + 3 = pc') (hn : as.length = 3) (hcat : (st.map fun v => v.category).sum ≤ 8) (kk : G X E (220, 3645) pc' L (.int r :: st) M') : G X E (220, 3645) pc L stk M := G_lVi h hM0 (ci := 7) (C := RX8) (T := TX8) (N := 11) rfl (by decide) rfl ⟨by decide +kernel, by decide +kernel, by decide +kernel⟩ (lwg (List.mem_of_getElem? (i := 731) (by decide +kernel)) rfl) (lwg (List.mem_of_getElem? (i := 732) (by decide +kernel)) rfl) (lwg (List.mem_of_getElem? (i := 733) (by decide +kernel)) rfl) (lwg (List.mem_of_getElem? (i := 75) (by decide +kernel)) rfl) (lwg (List.mem_of_getElem? (i := 734) (by decide +kernel)) rfl) hd hq hstk hp ⟨rfl, rfl, (Nat.le_of_ble_eq_true rfl), (Nat.le_of_ble_eq_true rfl)⟩ hn hcat ⟨(Nat.le_of_ble_eq_true rfl), (Nat.le_of_ble_eq_true rfl)⟩ kk
theorem lc_96 {X : Ctx} {l0 : Launch} {E : Env1} {L : List (Option Value)} {st stk as : List Value} {M M' : Mem} {pc q : Nat} {r : Int32} (h : Cx X l0 E RL cL_law (some .boolean) 4 room_1) (hM0 : Met l0 yX9_seen (wsA yX9_seen cX9_seen 4 (some .int)) rm_X9_seen (CP E M (.ref q :: as)) (CQi E r M') 0 0 (eA E)) (hd : decode cL_law pc = .ok (.invokevirtual 96, 3)) (hq : isK E q 8) (hstk : stk = as.reverse ++ .ref q :: st) {pc' : Nat} (hp : pc + 3 = pc') (hn : as.length = 3) (hcat : (st.map fun v => v.category).sum ≤ 8) (kk : G X E (220, 3645) pc' L (.int r :: st) M') : G X E (220, 3645) pc L stk M := G_lVi h hM0 (ci := 8) (C := RX9) (T := TX9) (N := 30) rfl (by decide) rfl ⟨by decide +kernel, by decide +kernel, by decide +kernel⟩ (lwg (List.mem_of_getElem? (i := 1278) (by decide +kernel)) rfl) (lwg (List.mem_of_getElem? (i := 1279) (by decide +kernel)) rfl) (lwg (List.mem_of_getElem? (i := 1280) (by decide +kernel)) rfl) (lwg (List.mem_of_getElem? (i := 84) (by decide +kernel)) rfl) (lwg (List.mem_of_getElem? (i := 1281) (by decide +kernel)) rfl) hd hq hstk hp ⟨rfl, rfl, (Nat.le_of_ble_eq_true rfl), (Nat.le_of_ble_eq_true rfl)⟩ hn hcat ⟨(Nat.le_of_ble_eq_true rfl), (Nat.le_of_ble_eq_true rfl)⟩ kk
theorem lc_97 {X : Ctx} {l0 : Launch} {E : Env1} {L : List (Option Value)} {st stk as : List Value} {M M' : Mem} {pc q : Nat} {r : Int32} (h : Cx X l0 E RL cL_law (some .boolean) 4 room_1) (hM0 : Met l0 yX8_may (wsA yX8_may cX8_may 7 (some .int)) rm_X8_may (CP E M (.ref q :: as)) (CQi E r M') 0 0 (eA E)) (hd : decode cL_law pc = .ok (.invokevirtual 97, 3)) (hq : isK E q 7) (hstk : stk = as.reverse ++ .ref q :: st) {pc' : Nat} (hp : pc + 3 = pc') (hn : as.length = 2) (hcat : (st.map fun v => v.category).sum ≤ 8) (kk : G X E (220, 3645) pc' L (.int r :: st) M') : G X E (220, 3645) pc L stk M := G_lVi h hM0 (ci := 7) (C := RX8) (T := TX8) (N := 11) rfl (by decide) rfl ⟨by decide +kernel, by decide +kernel, by decide +kernel⟩ (lwg (List.mem_of_getElem? (i := 744) (by decide +kernel)) rfl) (lwg (List.mem_of_getElem? (i := 745) (by decide +kernel)) rfl) (lwg (List.mem_of_getElem? (i := 746) (by decide +kernel)) rfl) (lwg (List.mem_of_getElem? (i := 75) (by decide +kernel)) rfl) (lwg (List.mem_of_getElem? (i := 747) (by decide +kernel)) rfl) hd hq hstk hp ⟨rfl, rfl, (Nat.le_of_ble_eq_true rfl), (Nat.le_of_ble_eq_true rfl)⟩ hn hcat ⟨(Nat.le_of_ble_eq_true rfl), (Nat.le_of_ble_eq_true rfl)⟩ kk
theorem lc_100 {X : Ctx} {l0 : Launch} {E : Env1} {L : List (Option Value)} {st stk as : List Value} {M M' : Mem} {pc q : Nat} {r : Int32} (h : Cx X l0 E RL cL_law (some .boolean) 4 room_1) (hM0 : Met l0 yX9_may (wsA yX9_may cX9_may 7 (some .int)) rm_X9_may (CP E M (.ref q :: as)) (CQi E r M') 0 0 (eA E)) (hd : decode cL_law pc = .ok (.invokevirtual 100, 3)) (hq : isK E q 8) (hstk : stk = as.reverse ++ .ref q :: st) {pc' : Nat} (hp : pc + 3 = pc') (hn : as.length = 2) (hcat : (st.map fun v => v.category).sum ≤ 8) (kk : G X E (220, 3645) pc' L (.int r :: st) M') : G X E (220, 3645) pc L stk M := G_lVi h hM0 (ci := 8) (C := RX9) (T := TX9) (N := 30) rfl (by decide) rfl ⟨by decide +kernel, by decide +kernel, by decide +kernel⟩ (lwg (List.mem_of_getElem? (i := 1282) (by decide +kernel)) rfl) (lwg (List.mem_of_getElem? (i := 1283) (by decide +kernel)) rfl) (lwg (List.mem_of_getElem? (i := 1284) (by decide +kernel)) rfl) (lwg (List.mem_of_getElem? (i := 84) (by decide +kernel)) rfl) (lwg (List.mem_of_getElem? (i := 1285) (by decide +kernel)) rfl) hd hq hstk hp ⟨rfl, rfl, (Nat.le_of_ble_eq_true rfl), (Nat.le_of_ble_eq_true rfl)⟩ hn hcat ⟨(Nat.le_of_ble_eq_true rfl), (Nat.le_of_ble_eq_true rfl)⟩ kk
theorem lc_101 {X : Ctx} {l0 : Launch} {E : Env1} {L : List (Option Value)} {st stk as : List Value} {M M' : Mem} {pc q : Nat} {r : Int32} (h : Cx X l0 E RL cL_law (some .boolean) 4 room_1) (hM0 : Met l0 yX8_note (wsA yX8_note cX8_note 5 (some .int)) rm_X8_note (CP E M (.ref q :: as)) (CQi E r M') 0 0 (eA E)) (hd : decode cL_law pc = .ok (.invokevirtual 101, 3)) (hq : isK E q 7) (hstk : stk = as.reverse ++ .ref q :: st) {pc' : Nat} (hp : pc + 3 = pc') (hn : as.length = 4) (hcat : (st.map fun v => v.category).sum ≤ 8) (kk : G X E (220, 3645) pc' L (.int r :: st) M') : G X E (220, 3645) pc L stk M := G_lVi h hM0 (ci := 7) (C := RX8) (T := TX8) (N := 11) rfl (by decide) rfl ⟨by decide +kernel, by decide +kernel, by decide +kernel⟩ (lwg (List.mem_of_getElem? (i := 756) (by decide +kernel)) rfl) (lwg (List.mem_of_getElem? (i := 757) (by decide +kernel)) rfl) (lwg (List.mem_of_getElem? (i := 758) (by decide +kernel)) rfl) (lwg (List.mem_of_getElem? (i := 75) (by decide +kernel)) rfl) (lwg (List.mem_of_getElem? (i := 759) (by decide +kernel)) rfl) hd hq hstk hp ⟨rfl, rfl, (Nat.le_of_ble_eq_true rfl), (Nat.le_of_ble_eq_true rfl)⟩ hn hcat ⟨(Nat.le_of_ble_eq_true rfl), (Nat.le_of_ble_eq_true rfl)⟩ kk
theorem lc_105 {X : Ctx} {l0 : Launch} {E : Env1} {L : List (Option Value)} {st stk as : List Value} {M M' : Mem} {pc q : Nat} {r : Int32} (h : Cx X l0 E RL cL_law (some .boolean) 4 room_1) (hM0 : Met l0 yX9_note (wsA yX9_note cX9_note 5 (some .int)) rm_X9_note (CP E M (.ref q :: as)) (CQi E r M') 0 0 (eA E)) (hd : decode cL_law pc = .ok (.invokevirtual 105, 3)) (hq : isK E q 8) (hstk : stk = as.reverse ++ .ref q :: st) {pc' : Nat} (hp : pc + 3 = pc') (hn : as.length = 4) (hcat : (st.map fun v => v.category).sum ≤ 8) (kk : G X E (220, 3645) pc' L (.int r :: st) M') : G X E (220, 3645) pc L stk M := G_lVi h hM0 (ci := 8) (C := RX9) (T := TX9) (N := 30) rfl (by decide) rfl ⟨by decide +kernel, by decide +kernel, by decide +kernel⟩ (lwg (List.mem_of_getElem? (i := 1290) (by decide +kernel)) rfl) (lwg (List.mem_of_getElem? (i := 1291) (by decide +kernel)) rfl) (lwg (List.mem_of_getElem? (i := 1292) (by decide +kernel)) rfl) (lwg (List.mem_of_getElem? (i := 84) (by decide +kernel)) rfl) (lwg (List.mem_of_getElem? (i := 1293) (by decide +kernel)) rfl) hd hq hstk hp ⟨rfl, rfl, (Nat.le_of_ble_eq_true rfl), (Nat.le_of_ble_eq_true rfl)⟩ hn hcat ⟨(Nat.le_of_ble_eq_true rfl), (Nat.le_of_ble_eq_true rfl)⟩ kk
theorem lc_106 {X : Ctx} {l0 : Launch} {E : Env1} {L : List (Option Value)} {st stk as : List Value} {M M' : Mem} {pc q : Nat} {r : Int32} (h : Cx X l0 E RL cL_law (some .boolean) 4 room_1) (hM0 : Met l0 yX8_mark (wsA yX8_mark cX8_mark 5 (some .int)) rm_X8_mark (CP E M (.ref q :: as)) (CQi E r M') 0 0 (eA E)) (hd : decode cL_law pc = .ok (.invokevirtual 106, 3)) (hq : isK E q 7) (hstk : stk = as.reverse ++ .ref q :: st) {pc' : Nat} (hp : pc + 3 = pc') (hn : as.length = 4) (hcat : (st.map fun v => v.category).sum ≤ 8) (kk : G X E (220, 3645) pc' L (.int r :: st) M') : G X E (220, 3645) pc L stk M := G_lVi h hM0 (ci := 7) (C := RX8) (T := TX8) (N := 11) rfl (by decide) rfl ⟨by decide +kernel, by decide +kernel, by decide +kernel⟩ (lwg (List.mem_of_getElem? (i := 760) (by decide +kernel)) rfl) (lwg (List.mem_of_getElem? (i := 761) (by decide +kernel)) rfl) (lwg (List.mem_of_getElem? (i := 762) (by decide +kernel)) rfl) (lwg (List.mem_of_getElem? (i := 75) (by decide +kernel)) rfl) (lwg (List.mem_of_getElem? (i := 763) (by decide +kernel)) rfl) hd hq hstk hp ⟨rfl, rfl, (Nat.le_of_ble_eq_true rfl), (Nat.le_of_ble_eq_true rfl)⟩ hn hcat ⟨(Nat.le_of_ble_eq_true rfl), (Nat.le_of_ble_eq_true rfl)⟩ kk
theorem lc_109 {X : Ctx} {l0 : Launch} {E : Env1} {L : List (Option Value)} {st stk as : List Value} {M M' : Mem} {pc q : Nat} {r : Int32} (h : Cx X l0 E RL cL_law (some .boolean) 4 room_1) (hM0 : Met l0 yX9_mark (wsA yX9_mark cX9_mark 5 (some .int)) rm_X9_mark (CP E M (.ref q :: as)) (CQi E r M') 0 0 (eA E)) (hd : decode cL_law pc = .ok (.invokevirtual 109, 3)) (hq : isK E q 8) (hstk : stk = as.reverse ++ .ref q :: st) {pc' : Nat} (hp : pc + 3 = pc') (hn : as.length = 4) (hcat : (st.map fun v => v.category).sum ≤ 8) (kk : G X E (220, 3645) pc' L (.int r :: st) M') : G X E (220, 3645) pc L stk M := G_lVi h hM0 (ci := 8) (C := RX9) (T := TX9) (N := 30) rfl (by decide) rfl ⟨by decide +kernel, by decide +kernel, by decide +kernel⟩ (lwg (List.mem_of_getElem? (i := 1294) (by decide +kernel)) rfl) (lwg (List.mem_of_getElem? (i := 1295) (by decide +kernel)) rfl) (lwg (List.mem_of_getElem? (i := 1296) (by decide +kernel)) rfl) (lwg (List.mem_of_getElem? (i := 84) (by decide +kernel)) rfl) (lwg (List.mem_of_getElem? (i := 1297) (by decide +kernel)) rfl) hd hq hstk hp ⟨rfl, rfl, (Nat.le_of_ble_eq_true rfl), (Nat.le_of_ble_eq_true rfl)⟩ hn hcat ⟨(Nat.le_of_ble_eq_true rfl), (Nat.le_of_ble_eq_true rfl)⟩ kk
theorem lc_110 {X : Ctx} {l0 : Launch} {E : Env1} {L : List (Option Value)} {st stk as : List Value} {M M' : Mem} {pc q : Nat} {r : Int32} (h : Cx X l0 E RL cL_law (some .boolean) 4 room_1) (hM0 : Met l0 yX8_forget (wsA yX8_forget cX8_forget 2 (some .int)) rm_X8_forget (CP E M (.ref q :: as)) (CQi E r M') 0 0 (eA E)) (hd : decode cL_law pc = .ok (.invokevirtual 110, 3)) (hq : isK E q 7) (hstk : stk = as.reverse ++ .ref q :: st) {pc' : Nat} (hp : pc + 3 = pc') (hn : as.length = 1) (hcat : (st.map fun v => v.category).sum ≤ 8) (kk : G X E (220, 3645) pc' L (.int r :: st) M') : G X E (220, 3645) pc L stk M := G_lVi h hM0 (ci := 7) (C := RX8) (T := TX8) (N := 11) rfl (by decide) rfl ⟨by decide +kernel, by decide +kernel, by decide +kernel⟩ (lwg (List.mem_of_getElem? (i := 764) (by decide +kernel)) rfl) (lwg (List.mem_of_getElem? (i := 765) (by decide +kernel)) rfl) (lwg (List.mem_of_getElem? (i := 766) (by decide +kernel)) rfl) (lwg (List.mem_of_getElem? (i := 75) (by decide +kernel)) rfl) (lwg (List.mem_of_getElem? (i := 767) (by decide +kernel)) rfl) hd hq hstk hp ⟨rfl, rfl, (Nat.le_of_ble_eq_true rfl), (Nat.le_of_ble_eq_true rfl)⟩ hn hcat ⟨(Nat.le_of_ble_eq_true rfl), (Nat.le_of_ble_eq_true rfl)⟩ kk
theorem lc_113 {X : Ctx} {l0 : Launch} {E : Env1} {L : List (Option Value)} {st stk as : List Value} {M M' : Mem} {pc q : Nat} {r : Int32} (h : Cx X l0 E RL cL_law (some .boolean) 4 room_1) (hM0 : Met l0 yX9_forget (wsA yX9_forget cX9_forget 3 (some .int)) rm_X9_forget (CP E M (.ref q :: as)) (CQi E r M') 0 0 (eA E)) (hd : decode cL_law pc = .ok (.invokevirtual 113, 3)) (hq : isK E q 8) (hstk : stk = as.reverse ++ .ref q :: st) {pc' : Nat} (hp : pc + 3 = pc') (hn : as.length = 1) (hcat : (st.map fun v => v.category).sum ≤ 8) (kk : G X E (220, 3645) pc' L (.int r :: st) M') : G X E (220, 3645) pc L stk M := G_lVi h hM0 (ci := 8) (C := RX9) (T := TX9) (N := 30) rfl (by decide) rfl ⟨by decide +kernel, by decide +kernel, by decide +kernel⟩ (lwg (List.mem_of_getElem? (i := 1298) (by decide +kernel)) rfl) (lwg (List.mem_of_getElem? (i := 1299) (by decide +kernel)) rfl) (lwg (List.mem_of_getElem? (i := 1300) (by decide +kernel)) rfl) (lwg (List.mem_of_getElem? (i := 84) (by decide +kernel)) rfl) (lwg (List.mem_of_getElem? (i := 1301) (by decide +kernel)) rfl) hd hq hstk hp ⟨rfl, rfl, (Nat.le_of_ble_eq_true rfl), (Nat.le_of_ble_eq_true rfl)⟩ hn hcat ⟨(Nat.le_of_ble_eq_true rfl), (Nat.le_of_ble_eq_true rfl)⟩ kk
theorem lc_114 {X : Ctx} {l0 : Launch} {E : Env1} {L : List (Option Value)} {st stk as : List Value} {M M' : Mem} {pc q : Nat} {r : Int32} (h : Cx X l0 E RL cL_law (some .boolean) 4 room_1) (hM0 : Met l0 yX8_is (wsA yX8_is cX8_is 2 (some .int)) rm_X8_is (CP E M (.ref q :: as)) (CQi E r M') 0 0 (eA E)) (hd : decode cL_law pc = .ok (.invokevirtual 114, 3)) (hq : isK E q 7) (hstk : stk = as.reverse ++ .ref q :: st) {pc' : Nat} (hp : pc + 3 = pc') (hn : as.length = 1) (hcat : (st.map fun v => v.category).sum ≤ 8) (kk : G X E (220, 3645) pc' L (.int r :: st) M') : G X E (220, 3645) pc L stk M := G_lVi h hM0 (ci := 7) (C := RX8) (T := TX8) (N := 11) rfl (by decide) rfl ⟨by decide +kernel, by decide +kernel, by decide +kernel⟩ (lwg (List.mem_of_getElem? (i := 769) (by decide +kernel)) rfl) (lwg (List.mem_of_getElem? (i := 770) (by decide +kernel)) rfl) (lwg (List.mem_of_getElem? (i := 771) (by decide +kernel)) rfl) (lwg (List.mem_of_getElem? (i := 75) (by decide +kernel)) rfl) (lwg (List.mem_of_getElem? (i := 772) (by decide +kernel)) rfl) hd hq hstk hp ⟨rfl, rfl, (Nat.le_of_ble_eq_true rfl), (Nat.le_of_ble_eq_true rfl)⟩ hn hcat ⟨(Nat.le_of_ble_eq_true rfl), (Nat.le_of_ble_eq_true rfl)⟩ kk
theorem lc_117 {X : Ctx} {l0 : Launch} {E : Env1} {L : List (Option Value)} {st stk as : List Value} {M M' : Mem} {pc q : Nat} {r : Int32} (h : Cx X l0 E RL cL_law (some .boolean) 4 room_1) (hM0 : Met l0 yX9_is (wsA yX9_is cX9_is 2 (some .int)) rm_X9_is (CP E M (.ref q :: as)) (CQi E r M') 0 0 (eA E)) (hd : decode cL_law pc = .ok (.invokevirtual 117, 3)) (hq : isK E q 8) (hstk : stk = as.reverse ++ .ref q :: st) {pc' : Nat} (hp : pc + 3 = pc') (hn : as.length = 1) (hcat : (st.map fun v => v.category).sum ≤ 8) (kk : G X E (220, 3645) pc' L (.int r :: st) M') : G X E (220, 3645) pc L stk M := G_lVi h hM0 (ci := 8) (C := RX9) (T := TX9) (N := 30) rfl (by decide) rfl ⟨by decide +kernel, by decide +kernel, by decide +kernel⟩ (lwg (List.mem_of_getElem? (i := 1302) (by decide +kernel)) rfl) (lwg (List.mem_of_getElem? (i := 1303) (by decide +kernel)) rfl) (lwg (List.mem_of_getElem? (i := 1304) (by decide +kernel)) rfl) (lwg (List.mem_of_getElem? (i := 84) (by decide +kernel)) rfl) (lwg (List.mem_of_getElem? (i := 1305) (by decide +kernel)) rfl) hd hq hstk hp ⟨rfl, rfl, (Nat.le_of_ble_eq_true rfl), (Nat.le_of_ble_eq_true rfl)⟩ hn hcat ⟨(Nat.le_of_ble_eq_true rfl), (Nat.le_of_ble_eq_true rfl)⟩ kk
theorem lc_118 {X : Ctx} {l0 : Launch} {E : Env1} {L : List (Option Value)} {st stk as : List Value} {M M' : Mem} {pc q : Nat} {r : Int32} (h : Cx X l0 E RL cL_law (some .boolean) 4 room_1) (hM0 : Met l0 yX8_look (wsA yX8_look cX8_look 2 (some .int)) rm_X8_look (CP E M (.ref q :: as)) (CQi E r M') 0 0 (eA E)) (hd : decode cL_law pc = .ok (.invokevirtual 118, 3)) (hq : isK E q 7) (hstk : stk = as.reverse ++ .ref q :: st) {pc' : Nat} (hp : pc + 3 = pc') (hn : as.length = 1) (hcat : (st.map fun v => v.category).sum ≤ 8) (kk : G X E (220, 3645) pc' L (.int r :: st) M') : G X E (220, 3645) pc L stk M := G_lVi h hM0 (ci := 7) (C := RX8) (T := TX8) (N := 11) rfl (by decide) rfl ⟨by decide +kernel, by decide +kernel, by decide +kernel⟩ (lwg (List.mem_of_getElem? (i := 789) (by decide +kernel)) rfl) (lwg (List.mem_of_getElem? (i := 790) (by decide +kernel)) rfl) (lwg (List.mem_of_getElem? (i := 791) (by decide +kernel)) rfl) (lwg (List.mem_of_getElem? (i := 75) (by decide +kernel)) rfl) (lwg (List.mem_of_getElem? (i := 792) (by decide +kernel)) rfl) hd hq hstk hp ⟨rfl, rfl, (Nat.le_of_ble_eq_true rfl), (Nat.le_of_ble_eq_true rfl)⟩ hn hcat ⟨(Nat.le_of_ble_eq_true rfl), (Nat.le_of_ble_eq_true rfl)⟩ kk
theorem lc_121 {X : Ctx} {l0 : Launch} {E : Env1} {L : List (Option Value)} {st stk as : List Value} {M M' : Mem} {pc q : Nat} {r : Int32} (h : Cx X l0 E RL cL_law (some .boolean) 4 room_1) (hM0 : Met l0 yX9_look (wsA yX9_look cX9_look 8 (some .int)) rm_X9_look (CP E M (.ref q :: as)) (CQi E r M') 0 0 (eA E)) (hd : decode cL_law pc = .ok (.invokevirtual 121, 3)) (hq : isK E q 8) (hstk : stk = as.reverse ++ .ref q :: st) {pc' : Nat} (hp : pc + 3 = pc') (hn : as.length = 1) (hcat : (st.map fun v => v.category).sum ≤ 8) (kk : G X E (220, 3645) pc' L (.int r :: st) M') : G X E (220, 3645) pc L stk M := G_lVi h hM0 (ci := 8) (C := RX9) (T := TX9) (N := 30) rfl (by decide) rfl ⟨by decide +kernel, by decide +kernel, by decide +kernel⟩ (lwg (List.mem_of_getElem? (i := 1318) (by decide +kernel)) rfl) (lwg (List.mem_of_getElem? (i := 1319) (by decide +kernel)) rfl) (lwg (List.mem_of_getElem? (i := 1320) (by decide +kernel)) rfl) (lwg (List.mem_of_getElem? (i := 84) (by decide +kernel)) rfl) (lwg (List.mem_of_getElem? (i := 1321) (by decide +kernel)) rfl) hd hq hstk hp ⟨rfl, rfl, (Nat.le_of_ble_eq_true rfl), (Nat.le_of_ble_eq_true rfl)⟩ hn hcat ⟨(Nat.le_of_ble_eq_true rfl), (Nat.le_of_ble_eq_true rfl)⟩ kk
theorem lc_122 {X : Ctx} {l0 : Launch} {E : Env1} {L : List (Option Value)} {st stk as : List Value} {M M' : Mem} {pc q : Nat} {r : Int32} (h : Cx X l0 E RL cL_law (some .boolean) 4 room_1) (hM0 : Met l0 yX8_kinds (wsA yX8_kinds cX8_kinds 2 (some .int)) rm_X8_kinds (CP E M (.ref q :: as)) (CQi E r M') 0 0 (eA E)) (hd : decode cL_law pc = .ok (.invokevirtual 122, 3)) (hq : isK E q 7) (hstk : stk = as.reverse ++ .ref q :: st) {pc' : Nat} (hp : pc + 3 = pc') (hn : as.length = 1) (hcat : (st.map fun v => v.category).sum ≤ 8) (kk : G X E (220, 3645) pc' L (.int r :: st) M') : G X E (220, 3645) pc L stk M := G_lVi h hM0 (ci := 7) (C := RX8) (T := TX8) (N := 11) rfl (by decide) rfl ⟨by decide +kernel, by decide +kernel, by decide +kernel⟩ (lwg (List.mem_of_getElem? (i := 823) (by decide +kernel)) rfl) (lwg (List.mem_of_getElem? (i := 824) (by decide +kernel)) rfl) (lwg (List.mem_of_getElem? (i := 825) (by decide +kernel)) rfl) (lwg (List.mem_of_getElem? (i := 75) (by decide +kernel)) rfl) (lwg (List.mem_of_getElem? (i := 826) (by decide +kernel)) rfl) hd hq hstk hp ⟨rfl, rfl, (Nat.le_of_ble_eq_true rfl), (Nat.le_of_ble_eq_true rfl)⟩ hn hcat ⟨(Nat.le_of_ble_eq_true rfl), (Nat.le_of_ble_eq_true rfl)⟩ kk
theorem lc_125 {X : Ctx} {l0 : Launch} {E : Env1} {L : List (Option Value)} {st stk as : List Value} {M M' : Mem} {pc q : Nat} {r : Int32} (h : Cx X l0 E RL cL_law (some .boolean) 4 room_1) (hM0 : Met l0 yX9_kinds (wsA yX9_kinds cX9_kinds 2 (some .int)) rm_X9_kinds (CP E M (.ref q :: as)) (CQi E r M') 0 0 (eA E)) (hd : decode cL_law pc = .ok (.invokevirtual 125, 3)) (hq : isK E q 8) (hstk : stk = as.reverse ++ .ref q :: st) {pc' : Nat} (hp : pc + 3 = pc') (hn : as.length = 1) (hcat : (st.map fun v => v.category).sum ≤ 8) (kk : G X E (220, 3645) pc' L (.int r :: st) M') : G X E (220, 3645) pc L stk M := G_lVi h hM0 (ci := 8) (C := RX9) (T := TX9) (N := 30) rfl (by decide) rfl ⟨by decide +kernel, by decide +kernel, by decide +kernel⟩ (lwg (List.mem_of_getElem? (i := 1310) (by decide +kernel)) rfl) (lwg (List.mem_of_getElem? (i := 1311) (by decide +kernel)) rfl) (lwg (List.mem_of_getElem? (i := 1312) (by decide +kernel)) rfl) (lwg (List.mem_of_getElem? (i := 84) (by decide +kernel)) rfl) (lwg (List.mem_of_getElem? (i := 1313) (by decide +kernel)) rfl) hd hq hstk hp ⟨rfl, rfl, (Nat.le_of_ble_eq_true rfl), (Nat.le_of_ble_eq_true rfl)⟩ hn hcat ⟨(Nat.le_of_ble_eq_true rfl), (Nat.le_of_ble_eq_true rfl)⟩ kk
theorem lc_126 {X : Ctx} {l0 : Launch} {E : Env1} {L : List (Option Value)} {st stk as : List Value} {M M' : Mem} {pc q : Nat} {r : Int32} (h : Cx X l0 E RL cL_law (some .boolean) 4 room_1) (hM0 : Met l0 yX8_ask (wsA yX8_ask cX8_ask 2 (some .int)) rm_X8_ask (CP E M (.ref q :: as)) (CQi E r M') 0 0 (eA E)) (hd : decode cL_law pc = .ok (.invokevirtual 126, 3)) (hq : isK E q 7) (hstk : stk = as.reverse ++ .ref q :: st) {pc' : Nat} (hp : pc + 3 = pc') (hn : as.length = 1) (hcat : (st.map fun v => v.category).sum ≤ 8) (kk : G X E (220, 3645) pc' L (.int r :: st) M') : G X E (220, 3645) pc L stk M := G_lVi h hM0 (ci := 7) (C := RX8) (T := TX8) (N := 11) rfl (by decide) rfl ⟨by decide +kernel, by decide +kernel, by decide +kernel⟩ (lwg (List.mem_of_getElem? (i := 830) (by decide +kernel)) rfl) (lwg (List.mem_of_getElem? (i := 831) (by decide +kernel)) rfl) (lwg (List.mem_of_getElem? (i := 832) (by decide +kernel)) rfl) (lwg (List.mem_of_getElem? (i := 75) (by decide +kernel)) rfl) (lwg (List.mem_of_getElem? (i := 833) (by decide +kernel)) rfl) hd hq hstk hp ⟨rfl, rfl, (Nat.le_of_ble_eq_true rfl), (Nat.le_of_ble_eq_true rfl)⟩ hn hcat ⟨(Nat.le_of_ble_eq_true rfl), (Nat.le_of_ble_eq_true rfl)⟩ kk
theorem lc_129 {X : Ctx} {l0 : Launch} {E : Env1} {L : List (Option Value)} {st stk as : List Value} {M M' : Mem} {pc q : Nat} {r : Int32} (h : Cx X l0 E RL cL_law (some .boolean) 4 room_1) (hM0 : Met l0 yX9_ask (wsA yX9_ask cX9_ask 7 (some .int)) rm_X9_ask (CP E M (.ref q :: as)) (CQi E r M') 0 0 (eA E)) (hd : decode cL_law pc = .ok (.invokevirtual 129, 3)) (hq : isK E q 8) (hstk : stk = as.reverse ++ .ref q :: st) {pc' : Nat} (hp : pc + 3 = pc') (hn : as.length = 1) (hcat : (st.map fun v => v.category).sum ≤ 8) (kk : G X E (220, 3645) pc' L (.int r :: st) M') : G X E (220, 3645) pc L stk M := G_lVi h hM0 (ci := 8) (C := RX9) (T := TX9) (N := 30) rfl (by decide) rfl ⟨by decide +kernel, by decide +kernel, by decide +kernel⟩ (lwg (List.mem_of_getElem? (i := 1329) (by decide +kernel)) rfl) (lwg (List.mem_of_getElem? (i := 1330) (by decide +kernel)) rfl) (lwg (List.mem_of_getElem? (i := 1331) (by decide +kernel)) rfl) (lwg (List.mem_of_getElem? (i := 84) (by decide +kernel)) rfl) (lwg (List.mem_of_getElem? (i := 1332) (by decide +kernel)) rfl) hd hq hstk hp ⟨rfl, rfl, (Nat.le_of_ble_eq_true rfl), (Nat.le_of_ble_eq_true rfl)⟩ hn hcat ⟨(Nat.le_of_ble_eq_true rfl), (Nat.le_of_ble_eq_true rfl)⟩ kk
theorem lc_130 {X : Ctx} {l0 : Launch} {E : Env1} {L : List (Option Value)} {st stk as : List Value} {M M' : Mem} {pc q : Nat} {r : Int32} (h : Cx X l0 E RL cL_law (some .boolean) 4 room_1) (hM0 : Met l0 yX8_hosts (wsA yX8_hosts cX8_hosts 5 (some .int)) rm_X8_hosts (CP E M (.ref q :: as)) (CQi E r M') 0 0 (eA E)) (hd : decode cL_law pc = .ok (.invokevirtual 130, 3)) (hq : isK E q 7) (hstk : stk = as.reverse ++ .ref q :: st) {pc' : Nat} (hp : pc + 3 = pc') (hn : as.length = 4) (hcat : (st.map fun v => v.category).sum ≤ 8) (kk : G X E (220, 3645) pc' L (.int r :: st) M') : G X E (220, 3645) pc L stk M := G_lVi h hM0 (ci := 7) (C := RX8) (T := TX8) (N := 11) rfl (by decide) rfl ⟨by decide +kernel, by decide +kernel, by decide +kernel⟩ (lwg (List.mem_of_getElem? (i := 837) (by decide +kernel)) rfl) (lwg (List.mem_of_getElem? (i := 838) (by decide +kernel)) rfl) (lwg (List.mem_of_getElem? (i := 839) (by decide +kernel)) rfl) (lwg (List.mem_of_getElem? (i := 75) (by decide +kernel)) rfl) (lwg (List.mem_of_getElem? (i := 840) (by decide +kernel)) rfl) hd hq hstk hp ⟨rfl, rfl, (Nat.le_of_ble_eq_true rfl), (Nat.le_of_ble_eq_true rfl)⟩ hn hcat ⟨(Nat.le_of_ble_eq_true rfl), (Nat.le_of_ble_eq_true rfl)⟩ kk
theorem lc_133 {X : Ctx} {l0 : Launch} {E : Env1} {L : List (Option Value)} {st stk as : List Value} {M M' : Mem} {pc q : Nat} {r : Int32} (h : Cx X l0 E RL cL_law (some .boolean) 4 room_1) (hM0 : Met l0 yX9_hosts (wsA yX9_hosts cX9_hosts 8 (some .int)) rm_X9_hosts (CP E M (.ref q :: as)) (CQi E r M') 0 0 (eA E)) (hd : decode cL_law pc = .ok (.invokevirtual 133, 3)) (hq : isK E q 8) (hstk : stk = as.reverse ++ .ref q :: st) {pc' : Nat} (hp : pc + 3 = pc') (hn : as.length = 4) (hcat : (st.map fun v => v.category).sum ≤ 8) (kk : G X E (220, 3645) pc' L (.int r :: st) M') : G X E (220, 3645) pc L stk M := G_lVi h hM0 (ci := 8) (C := RX9) (T := TX9) (N := 30) rfl (by decide) rfl ⟨by decide +kernel, by decide +kernel, by decide +kernel⟩ (lwg (List.mem_of_getElem? (i := 1333) (by decide +kernel)) rfl) (lwg (List.mem_of_getElem? (i := 1334) (by decide +kernel)) rfl) (lwg (List.mem_of_getElem? (i := 1335) (by decide +kernel)) rfl) (lwg (List.mem_of_getElem? (i := 84) (by decide +kernel)) rfl) (lwg (List.mem_of_getElem? (i := 1336) (by decide +kernel)) rfl) hd hq hstk hp ⟨rfl, rfl, (Nat.le_of_ble_eq_true rfl), (Nat.le_of_ble_eq_true rfl)⟩ hn hcat ⟨(Nat.le_of_ble_eq_true rfl), (Nat.le_of_ble_eq_true rfl)⟩ kk
theorem lc_134 {X : Ctx} {l0 : Launch} {E : Env1} {L : List (Option Value)} {st stk as : List Value} {M M' : Mem} {pc q : Nat} {r : Int32} (h : Cx X l0 E RL cL_law (some .boolean) 4 room_1) (hM0 : Met l0 yX8_slips (wsA yX8_slips cX8_slips 12 (some .int)) rm_X8_slips (CP E M (.ref q :: as)) (CQi E r M') 0 0 (eA E)) (hd : decode cL_law pc = .ok (.invokevirtual 134, 3)) (hq : isK E q 7) (hstk : stk = as.reverse ++ .ref q :: st) {pc' : Nat} (hp : pc + 3 = pc') (hn : as.length = 3) (hcat : (st.map fun v => v.category).sum ≤ 8) (kk : G X E (220, 3645) pc' L (.int r :: st) M') : G X E (220, 3645) pc L stk M := G_lVi h hM0 (ci := 7) (C := RX8) (T := TX8) (N := 11) rfl (by decide) rfl ⟨by decide +kernel, by decide +kernel, by decide +kernel⟩ (lwg (List.mem_of_getElem? (i := 849) (by decide +kernel)) rfl) (lwg (List.mem_of_getElem? (i := 850) (by decide +kernel)) rfl) (lwg (List.mem_of_getElem? (i := 851) (by decide +kernel)) rfl) (lwg (List.mem_of_getElem? (i := 75) (by decide +kernel)) rfl) (lwg (List.mem_of_getElem? (i := 852) (by decide +kernel)) rfl) hd hq hstk hp ⟨rfl, rfl, (Nat.le_of_ble_eq_true rfl), (Nat.le_of_ble_eq_true rfl)⟩ hn hcat ⟨(Nat.le_of_ble_eq_true rfl), (Nat.le_of_ble_eq_true rfl)⟩ kk
theorem lc_137 {X : Ctx} {l0 : Launch} {E : Env1} {L : List (Option Value)} {st stk as : List Value} {M M' : Mem} {pc q : Nat} {r : Int32} (h : Cx X l0 E RL cL_law (some .boolean) 4 room_1) (hM0 : Met l0 yX9_slips (wsA yX9_slips cX9_slips 15 (some .int)) rm_X9_slips (CP E M (.ref q :: as)) (CQi E r M') 0 0 (eA E)) (hd : decode cL_law pc = .ok (.invokevirtual 137, 3)) (hq : isK E q 8) (hstk : stk = as.reverse ++ .ref q :: st) {pc' : Nat} (hp : pc + 3 = pc') (hn : as.length = 3) (hcat : (st.map fun v => v.category).sum ≤ 8) (kk : G X E (220, 3645) pc' L (.int r :: st) M') : G X E (220, 3645) pc L stk M := G_lVi h hM0 (ci := 8) (C := RX9) (T := TX9) (N := 30) rfl (by decide) rfl ⟨by decide +kernel, by decide +kernel, by decide +kernel⟩ (lwg (List.mem_of_getElem? (i := 1341) (by decide +kernel)) rfl) (lwg (List.mem_of_getElem? (i := 1342) (by decide +kernel)) rfl) (lwg (List.mem_of_getElem? (i := 1343) (by decide +kernel)) rfl) (lwg (List.mem_of_getElem? (i := 84) (by decide +kernel)) rfl) (lwg (List.mem_of_getElem? (i := 1344) (by decide +kernel)) rfl) hd hq hstk hp ⟨rfl, rfl, (Nat.le_of_ble_eq_true rfl), (Nat.le_of_ble_eq_true rfl)⟩ hn hcat ⟨(Nat.le_of_ble_eq_true rfl), (Nat.le_of_ble_eq_true rfl)⟩ kk
theorem lc_138 {X : Ctx} {l0 : Launch} {E : Env1} {L : List (Option Value)} {st stk as : List Value} {M M' : Mem} {pc q : Nat} {r : Int32} (h : Cx X l0 E RL cL_law (some .boolean) 4 room_1) (hM0 : Met l0 yX8_evenings (wsA yX8_evenings cX8_evenings 7 (some .int)) rm_X8_evenings (CP E M (.ref q :: as)) (CQi E r M') 0 0 (eA E)) (hd : decode cL_law pc = .ok (.invokevirtual 138, 3)) (hq : isK E q 7) (hstk : stk = as.reverse ++ .ref q :: st) {pc' : Nat} (hp : pc + 3 = pc') (hn : as.length = 2) (hcat : (st.map fun v => v.category).sum ≤ 8) (kk : G X E (220, 3645) pc' L (.int r :: st) M') : G X E (220, 3645) pc L stk M := G_lVi h hM0 (ci := 7) (C := RX8) (T := TX8) (N := 11) rfl (by decide) rfl ⟨by decide +kernel, by decide +kernel, by decide +kernel⟩ (lwg (List.mem_of_getElem? (i := 863) (by decide +kernel)) rfl) (lwg (List.mem_of_getElem? (i := 864) (by decide +kernel)) rfl) (lwg (List.mem_of_getElem? (i := 865) (by decide +kernel)) rfl) (lwg (List.mem_of_getElem? (i := 75) (by decide +kernel)) rfl) (lwg (List.mem_of_getElem? (i := 866) (by decide +kernel)) rfl) hd hq hstk hp ⟨rfl, rfl, (Nat.le_of_ble_eq_true rfl), (Nat.le_of_ble_eq_true rfl)⟩ hn hcat ⟨(Nat.le_of_ble_eq_true rfl), (Nat.le_of_ble_eq_true rfl)⟩ kk
theorem lc_141 {X : Ctx} {l0 : Launch} {E : Env1} {L : List (Option Value)} {st stk as : List Value} {M M' : Mem} {pc q : Nat} {r : Int32} (h : Cx X l0 E RL cL_law (some .boolean) 4 room_1) (hM0 : Met l0 yX9_evenings (wsA yX9_evenings cX9_evenings 8 (some .int)) rm_X9_evenings (CP E M (.ref q :: as)) (CQi E r M') 0 0 (eA E)) (hd : decode cL_law pc = .ok (.invokevirtual 141, 3)) (hq : isK E q 8) (hstk : stk = as.reverse ++ .ref q :: st) {pc' : Nat} (hp : pc + 3 = pc') (hn : as.length = 2) (hcat : (st.map fun v => v.category).sum ≤ 8) (kk : G X E (220, 3645) pc' L (.int r :: st) M') : G X E (220, 3645) pc L stk M := G_lVi h hM0 (ci := 8) (C := RX9) (T := TX9) (N := 30) rfl (by decide) rfl ⟨by decide +kernel, by decide +kernel, by decide +kernel⟩ (lwg (List.mem_of_getElem? (i := 1350) (by decide +kernel)) rfl) (lwg (List.mem_of_getElem? (i := 1351) (by decide +kernel)) rfl) (lwg (List.mem_of_getElem? (i := 1352) (by decide +kernel)) rfl) (lwg (List.mem_of_getElem? (i := 84) (by decide +kernel)) rfl) (lwg (List.mem_of_getElem? (i := 1353) (by decide +kernel)) rfl) hd hq hstk hp ⟨rfl, rfl, (Nat.le_of_ble_eq_true rfl), (Nat.le_of_ble_eq_true rfl)⟩ hn hcat ⟨(Nat.le_of_ble_eq_true rfl), (Nat.le_of_ble_eq_true rfl)⟩ kk
theorem lc_142 {X : Ctx} {l0 : Launch} {E : Env1} {L : List (Option Value)} {st stk as : List Value} {M M' : Mem} {pc q : Nat} {r : Int64} (h : Cx X l0 E RL cL_law (some .boolean) 4 room_1) (hM0 : Met l0 yX8_part (wsA yX8_part cX8_part 2 (some .long)) rm_X8_part (CP E M (.ref q :: as)) (CQl E r M') 0 0 (eA E)) (hd : decode cL_law pc = .ok (.invokevirtual 142, 3)) (hq : isK E q 7) (hstk : stk = as.reverse ++ .ref q :: st) {pc' : Nat} (hp : pc + 3 = pc') (hn : as.length = 1) (hcat : (st.map fun v => v.category).sum ≤ 8) (kk : G X E (220, 3645) pc' L (.long r :: st) M') : G X E (220, 3645) pc L stk M := G_lVl h hM0 (ci := 7) (C := RX8) (T := TX8) (N := 11) rfl (by decide) rfl ⟨by decide +kernel, by decide +kernel, by decide +kernel⟩ (lwg (List.mem_of_getElem? (i := 876) (by decide +kernel)) rfl) (lwg (List.mem_of_getElem? (i := 877) (by decide +kernel)) rfl) (lwg (List.mem_of_getElem? (i := 878) (by decide +kernel)) rfl) (lwg (List.mem_of_getElem? (i := 75) (by decide +kernel)) rfl) (lwg (List.mem_of_getElem? (i := 879) (by decide +kernel)) rfl) hd hq hstk hp ⟨rfl, rfl, (Nat.le_of_ble_eq_true rfl), (Nat.le_of_ble_eq_true rfl)⟩ hn hcat ⟨(Nat.le_of_ble_eq_true rfl), (Nat.le_of_ble_eq_true rfl)⟩ kk
theorem lc_146 {X : Ctx} {l0 : Launch} {E : Env1} {L : List (Option Value)} {st stk as : List Value} {M M' : Mem} {pc q : Nat} {r : Int64} (h : Cx X l0 E RL cL_law (some .boolean) 4 room_1) (hM0 : Met l0 yX9_part (wsA yX9_part cX9_part 2 (some .long)) rm_X9_part (CP E M (.ref q :: as)) (CQl E r M') 0 0 (eA E)) (hd : decode cL_law pc = .ok (.invokevirtual 146, 3)) (hq : isK E q 8) (hstk : stk = as.reverse ++ .ref q :: st) {pc' : Nat} (hp : pc + 3 = pc') (hn : as.length = 1) (hcat : (st.map fun v => v.category).sum ≤ 8) (kk : G X E (220, 3645) pc' L (.long r :: st) M') : G X E (220, 3645) pc L stk M := G_lVl h hM0 (ci := 8) (C := RX9) (T := TX9) (N := 30) rfl (by decide) rfl ⟨by decide +kernel, by decide +kernel, by decide +kernel⟩ (lwg (List.mem_of_getElem? (i := 1362) (by decide +kernel)) rfl) (lwg (List.mem_of_getElem? (i := 1363) (by decide +kernel)) rfl) (lwg (List.mem_of_getElem? (i := 1364) (by decide +kernel)) rfl) (lwg (List.mem_of_getElem? (i := 84) (by decide +kernel)) rfl) (lwg (List.mem_of_getElem? (i := 1365) (by decide +kernel)) rfl) hd hq hstk hp ⟨rfl, rfl, (Nat.le_of_ble_eq_true rfl), (Nat.le_of_ble_eq_true rfl)⟩ hn hcat ⟨(Nat.le_of_ble_eq_true rfl), (Nat.le_of_ble_eq_true rfl)⟩ kk
theorem lc_147 {X : Ctx} {l0 : Launch} {E : Env1} {L : List (Option Value)} {st stk as : List Value} {M M' : Mem} {pc q : Nat} {r : Int32} (h : Cx X l0 E RL cL_law (some .boolean) 4 room_1) (hM0 : Met l0 yX8_image (wsA yX8_image cX8_image 2 (some .int)) rm_X8_image (CP E M (.ref q :: as)) (CQi E r M') 0 0 (eA E)) (hd : decode cL_law pc = .ok (.invokevirtual 147, 3)) (hq : isK E q 7) (hstk : stk = as.reverse ++ .ref q :: st) {pc' : Nat} (hp : pc + 3 = pc') (hn : as.length = 1) (hcat : (st.map fun v => v.category).sum ≤ 8) (kk : G X E (220, 3645) pc' L (.int r :: st) M') : G X E (220, 3645) pc L stk M := G_lVi h hM0 (ci := 7) (C := RX8) (T := TX8) (N := 11) rfl (by decide) rfl ⟨by decide +kernel, by decide +kernel, by decide +kernel⟩ (lwg (List.mem_of_getElem? (i := 880) (by decide +kernel)) rfl) (lwg (List.mem_of_getElem? (i := 881) (by decide +kernel)) rfl) (lwg (List.mem_of_getElem? (i := 882) (by decide +kernel)) rfl) (lwg (List.mem_of_getElem? (i := 75) (by decide +kernel)) rfl) (lwg (List.mem_of_getElem? (i := 883) (by decide +kernel)) rfl) hd hq hstk hp ⟨rfl, rfl, (Nat.le_of_ble_eq_true rfl), (Nat.le_of_ble_eq_true rfl)⟩ hn hcat ⟨(Nat.le_of_ble_eq_true rfl), (Nat.le_of_ble_eq_true rfl)⟩ kk
theorem lc_150 {X : Ctx} {l0 : Launch} {E : Env1} {L : List (Option Value)} {st stk as : List Value} {M M' : Mem} {pc q : Nat} {r : Int32} (h : Cx X l0 E RL cL_law (some .boolean) 4 room_1) (hM0 : Met l0 yX9_image (wsA yX9_image cX9_image 2 (some .int)) rm_X9_image (CP E M (.ref q :: as)) (CQi E r M') 0 0 (eA E)) (hd : decode cL_law pc = .ok (.invokevirtual 150, 3)) (hq : isK E q 8) (hstk : stk = as.reverse ++ .ref q :: st) {pc' : Nat} (hp : pc + 3 = pc') (hn : as.length = 1) (hcat : (st.map fun v => v.category).sum ≤ 8) (kk : G X E (220, 3645) pc' L (.int r :: st) M') : G X E (220, 3645) pc L stk M := G_lVi h hM0 (ci := 8) (C := RX9) (T := TX9) (N := 30) rfl (by decide) rfl ⟨by decide +kernel, by decide +kernel, by decide +kernel⟩ (lwg (List.mem_of_getElem? (i := 1366) (by decide +kernel)) rfl) (lwg (List.mem_of_getElem? (i := 1367) (by decide +kernel)) rfl) (lwg (List.mem_of_getElem? (i := 1368) (by decide +kernel)) rfl) (lwg (List.mem_of_getElem? (i := 84) (by decide +kernel)) rfl) (lwg (List.mem_of_getElem? (i := 1369) (by decide +kernel)) rfl) hd hq hstk hp ⟨rfl, rfl, (Nat.le_of_ble_eq_true rfl), (Nat.le_of_ble_eq_true rfl)⟩ hn hcat ⟨(Nat.le_of_ble_eq_true rfl), (Nat.le_of_ble_eq_true rfl)⟩ kk
theorem lc_151 {X : Ctx} {l0 : Launch} {E : Env1} {L : List (Option Value)} {st stk as : List Value} {M M' : Mem} {pc q : Nat} {r : Int32} (h : Cx X l0 E RL cL_law (some .boolean) 4 room_1) (hM0 : Met l0 yX8_from (wsA yX8_from cX8_from 2 (some .int)) rm_X8_from (CP E M (.ref q :: as)) (CQi E r M') 0 0 (eA E)) (hd : decode cL_law pc = .ok (.invokevirtual 151, 3)) (hq : isK E q 7) (hstk : stk = as.reverse ++ .ref q :: st) {pc' : Nat} (hp : pc + 3 = pc') (hn : as.length = 1) (hcat : (st.map fun v => v.category).sum ≤ 8) (kk : G X E (220, 3645) pc' L (.int r :: st) M') : G X E (220, 3645) pc L stk M := G_lVi h hM0 (ci := 7) (C := RX8) (T := TX8) (N := 11) rfl (by decide) rfl ⟨by decide +kernel, by decide +kernel, by decide +kernel⟩ (lwg (List.mem_of_getElem? (i := 884) (by decide +kernel)) rfl) (lwg (List.mem_of_getElem? (i := 885) (by decide +kernel)) rfl) (lwg (List.mem_of_getElem? (i := 886) (by decide +kernel)) rfl) (lwg (List.mem_of_getElem? (i := 75) (by decide +kernel)) rfl) (lwg (List.mem_of_getElem? (i := 887) (by decide +kernel)) rfl) hd hq hstk hp ⟨rfl, rfl, (Nat.le_of_ble_eq_true rfl), (Nat.le_of_ble_eq_true rfl)⟩ hn hcat ⟨(Nat.le_of_ble_eq_true rfl), (Nat.le_of_ble_eq_true rfl)⟩ kk
theorem lc_154 {X : Ctx} {l0 : Launch} {E : Env1} {L : List (Option Value)} {st stk as : List Value} {M M' : Mem} {pc q : Nat} {r : Int32} (h : Cx X l0 E RL cL_law (some .boolean) 4 room_1) (hM0 : Met l0 yX9_from (wsA yX9_from cX9_from 2 (some .int)) rm_X9_from (CP E M (.ref q :: as)) (CQi E r M') 0 0 (eA E)) (hd : decode cL_law pc = .ok (.invokevirtual 154, 3)) (hq : isK E q 8) (hstk : stk = as.reverse ++ .ref q :: st) {pc' : Nat} (hp : pc + 3 = pc') (hn : as.length = 1) (hcat : (st.map fun v => v.category).sum ≤ 8) (kk : G X E (220, 3645) pc' L (.int r :: st) M') : G X E (220, 3645) pc L stk M := G_lVi h hM0 (ci := 8) (C := RX9) (T := TX9) (N := 30) rfl (by decide) rfl ⟨by decide +kernel, by decide +kernel, by decide +kernel⟩ (lwg (List.mem_of_getElem? (i := 1370) (by decide +kernel)) rfl) (lwg (List.mem_of_getElem? (i := 1371) (by decide +kernel)) rfl) (lwg (List.mem_of_getElem? (i := 1372) (by decide +kernel)) rfl) (lwg (List.mem_of_getElem? (i := 84) (by decide +kernel)) rfl) (lwg (List.mem_of_getElem? (i := 1373) (by decide +kernel)) rfl) hd hq hstk hp ⟨rfl, rfl, (Nat.le_of_ble_eq_true rfl), (Nat.le_of_ble_eq_true rfl)⟩ hn hcat ⟨(Nat.le_of_ble_eq_true rfl), (Nat.le_of_ble_eq_true rfl)⟩ kk
theorem lc_155 {X : Ctx} {l0 : Launch} {E : Env1} {L : List (Option Value)} {st stk as : List Value} {M M' : Mem} {pc q : Nat} {r : Int32} (h : Cx X l0 E RL cL_law (some .boolean) 4 room_1) (hM0 : Met l0 yX8_status (wsA yX8_status cX8_status 2 (some .int)) rm_X8_status (CP E M (.ref q :: as)) (CQi E r M') 0 0 (eA E)) (hd : decode cL_law pc = .ok (.invokevirtual 155, 3)) (hq : isK E q 7) (hstk : stk = as.reverse ++ .ref q :: st) {pc' : Nat} (hp : pc + 3 = pc') (hn : as.length = 1) (hcat : (st.map fun v => v.category).sum ≤ 8) (kk : G X E (220, 3645) pc' L (.int r :: st) M') : G X E (220, 3645) pc L stk M := G_lVi h hM0 (ci := 7) (C := RX8) (T := TX8) (N := 11) rfl (by decide) rfl ⟨by decide +kernel, by decide +kernel, by decide +kernel⟩ (lwg (List.mem_of_getElem? (i := 888) (by decide +kernel)) rfl) (lwg (List.mem_of_getElem? (i := 889) (by decide +kernel)) rfl) (lwg (List.mem_of_getElem? (i := 890) (by decide +kernel)) rfl) (lwg (List.mem_of_getElem? (i := 75) (by decide +kernel)) rfl) (lwg (List.mem_of_getElem? (i := 891) (by decide +kernel)) rfl) hd hq hstk hp ⟨rfl, rfl, (Nat.le_of_ble_eq_true rfl), (Nat.le_of_ble_eq_true rfl)⟩ hn hcat ⟨(Nat.le_of_ble_eq_true rfl), (Nat.le_of_ble_eq_true rfl)⟩ kk
theorem lc_158 {X : Ctx} {l0 : Launch} {E : Env1} {L : List (Option Value)} {st stk as : List Value} {M M' : Mem} {pc q : Nat} {r : Int32} (h : Cx X l0 E RL cL_law (some .boolean) 4 room_1) (hM0 : Met l0 yX9_status (wsA yX9_status cX9_status 2 (some .int)) rm_X9_status (CP E M (.ref q :: as)) (CQi E r M') 0 0 (eA E)) (hd : decode cL_law pc = .ok (.invokevirtual 158, 3)) (hq : isK E q 8) (hstk : stk = as.reverse ++ .ref q :: st) {pc' : Nat} (hp : pc + 3 = pc') (hn : as.length = 1) (hcat : (st.map fun v => v.category).sum ≤ 8) (kk : G X E (220, 3645) pc' L (.int r :: st) M') : G X E (220, 3645) pc L stk M := G_lVi h hM0 (ci := 8) (C := RX9) (T := TX9) (N := 30) rfl (by decide) rfl ⟨by decide +kernel, by decide +kernel, by decide +kernel⟩ (lwg (List.mem_of_getElem? (i := 1374) (by decide +kernel)) rfl) (lwg (List.mem_of_getElem? (i := 1375) (by decide +kernel)) rfl) (lwg (List.mem_of_getElem? (i := 1376) (by decide +kernel)) rfl) (lwg (List.mem_of_getElem? (i := 84) (by decide +kernel)) rfl) (lwg (List.mem_of_getElem? (i := 1377) (by decide +kernel)) rfl) hd hq hstk hp ⟨rfl, rfl, (Nat.le_of_ble_eq_true rfl), (Nat.le_of_ble_eq_true rfl)⟩ hn hcat ⟨(Nat.le_of_ble_eq_true rfl), (Nat.le_of_ble_eq_true rfl)⟩ kk
theorem lc_159 {X : Ctx} {l0 : Launch} {E : Env1} {L : List (Option Value)} {st stk as : List Value} {M M' : Mem} {pc q : Nat} {r : Int32} (h : Cx X l0 E RL cL_law (some .boolean) 4 room_1) (hM0 : Met l0 yX8_count (wsA yX8_count cX8_count 2 (some .int)) rm_X8_count (CP E M (.ref q :: as)) (CQi E r M') 0 0 (eA E)) (hd : decode cL_law pc = .ok (.invokevirtual 159, 3)) (hq : isK E q 7) (hstk : stk = as.reverse ++ .ref q :: st) {pc' : Nat} (hp : pc + 3 = pc') (hn : as.length = 1) (hcat : (st.map fun v => v.category).sum ≤ 8) (kk : G X E (220, 3645) pc' L (.int r :: st) M') : G X E (220, 3645) pc L stk M := G_lVi h hM0 (ci := 7) (C := RX8) (T := TX8) (N := 11) rfl (by decide) rfl ⟨by decide +kernel, by decide +kernel, by decide +kernel⟩ (lwg (List.mem_of_getElem? (i := 892) (by decide +kernel)) rfl) (lwg (List.mem_of_getElem? (i := 893) (by decide +kernel)) rfl) (lwg (List.mem_of_getElem? (i := 894) (by decide +kernel)) rfl) (lwg (List.mem_of_getElem? (i := 75) (by decide +kernel)) rfl) (lwg (List.mem_of_getElem? (i := 895) (by decide +kernel)) rfl) hd hq hstk hp ⟨rfl, rfl, (Nat.le_of_ble_eq_true rfl), (Nat.le_of_ble_eq_true rfl)⟩ hn hcat ⟨(Nat.le_of_ble_eq_true rfl), (Nat.le_of_ble_eq_true rfl)⟩ kk
theorem lc_162 {X : Ctx} {l0 : Launch} {E : Env1} {L : List (Option Value)} {st stk as : List Value} {M M' : Mem} {pc q : Nat} {r : Int32} (h : Cx X l0 E RL cL_law (some .boolean) 4 room_1) (hM0 : Met l0 yX9_count (wsA yX9_count cX9_count 2 (some .int)) rm_X9_count (CP E M (.ref q :: as)) (CQi E r M') 0 0 (eA E)) (hd : decode cL_law pc = .ok (.invokevirtual 162, 3)) (hq : isK E q 8) (hstk : stk = as.reverse ++ .ref q :: st) {pc' : Nat} (hp : pc + 3 = pc') (hn : as.length = 1) (hcat : (st.map fun v => v.category).sum ≤ 8) (kk : G X E (220, 3645) pc' L (.int r :: st) M') : G X E (220, 3645) pc L stk M := G_lVi h hM0 (ci := 8) (C := RX9) (T := TX9) (N := 30) rfl (by decide) rfl ⟨by decide +kernel, by decide +kernel, by decide +kernel⟩ (lwg (List.mem_of_getElem? (i := 1378) (by decide +kernel)) rfl) (lwg (List.mem_of_getElem? (i := 1379) (by decide +kernel)) rfl) (lwg (List.mem_of_getElem? (i := 1380) (by decide +kernel)) rfl) (lwg (List.mem_of_getElem? (i := 84) (by decide +kernel)) rfl) (lwg (List.mem_of_getElem? (i := 1381) (by decide +kernel)) rfl) hd hq hstk hp ⟨rfl, rfl, (Nat.le_of_ble_eq_true rfl), (Nat.le_of_ble_eq_true rfl)⟩ hn hcat ⟨(Nat.le_of_ble_eq_true rfl), (Nat.le_of_ble_eq_true rfl)⟩ kk
theorem lc_163 {X : Ctx} {l0 : Launch} {E : Env1} {L : List (Option Value)} {st stk as : List Value} {M M' : Mem} {pc q : Nat} {r : Int64} (h : Cx X l0 E RL cL_law (some .boolean) 4 room_1) (hM0 : Met l0 yX8_digest (wsA yX8_digest cX8_digest 4 (some .long)) rm_X8_digest (CP E M (.ref q :: as)) (CQl E r M') 0 0 (eA E)) (hd : decode cL_law pc = .ok (.invokevirtual 163, 3)) (hq : isK E q 7) (hstk : stk = as.reverse ++ .ref q :: st) {pc' : Nat} (hp : pc + 3 = pc') (hn : as.length = 0) (hcat : (st.map fun v => v.category).sum ≤ 8) (kk : G X E (220, 3645) pc' L (.long r :: st) M') : G X E (220, 3645) pc L stk M := G_lVl h hM0 (ci := 7) (C := RX8) (T := TX8) (N := 11) rfl (by decide) rfl ⟨by decide +kernel, by decide +kernel, by decide +kernel⟩ (lwg (List.mem_of_getElem? (i := 904) (by decide +kernel)) rfl) (lwg (List.mem_of_getElem? (i := 905) (by decide +kernel)) rfl) (lwg (List.mem_of_getElem? (i := 906) (by decide +kernel)) rfl) (lwg (List.mem_of_getElem? (i := 75) (by decide +kernel)) rfl) (lwg (List.mem_of_getElem? (i := 907) (by decide +kernel)) rfl) hd hq hstk hp ⟨rfl, rfl, (Nat.le_of_ble_eq_true rfl), (Nat.le_of_ble_eq_true rfl)⟩ hn hcat ⟨(Nat.le_of_ble_eq_true rfl), (Nat.le_of_ble_eq_true rfl)⟩ kk
theorem lc_167 {X : Ctx} {l0 : Launch} {E : Env1} {L : List (Option Value)} {st stk as : List Value} {M M' : Mem} {pc q : Nat} {r : Int64} (h : Cx X l0 E RL cL_law (some .boolean) 4 room_1) (hM0 : Met l0 yX9_digest (wsA yX9_digest cX9_digest 2 (some .long)) rm_X9_digest (CP E M (.ref q :: as)) (CQl E r M') 0 0 (eA E)) (hd : decode cL_law pc = .ok (.invokevirtual 167, 3)) (hq : isK E q 8) (hstk : stk = as.reverse ++ .ref q :: st) {pc' : Nat} (hp : pc + 3 = pc') (hn : as.length = 0) (hcat : (st.map fun v => v.category).sum ≤ 8) (kk : G X E (220, 3645) pc' L (.long r :: st) M') : G X E (220, 3645) pc L stk M := G_lVl h hM0 (ci := 8) (C := RX9) (T := TX9) (N := 30) rfl (by decide) rfl ⟨by decide +kernel, by decide +kernel, by decide +kernel⟩ (lwg (List.mem_of_getElem? (i := 1390) (by decide +kernel)) rfl) (lwg (List.mem_of_getElem? (i := 1391) (by decide +kernel)) rfl) (lwg (List.mem_of_getElem? (i := 1392) (by decide +kernel)) rfl) (lwg (List.mem_of_getElem? (i := 84) (by decide +kernel)) rfl) (lwg (List.mem_of_getElem? (i := 1393) (by decide +kernel)) rfl) hd hq hstk hp ⟨rfl, rfl, (Nat.le_of_ble_eq_true rfl), (Nat.le_of_ble_eq_true rfl)⟩ hn hcat ⟨(Nat.le_of_ble_eq_true rfl), (Nat.le_of_ble_eq_true rfl)⟩ kk
set_option maxRecDepth 100000 in
set_option maxHeartbeats 40000000 in
theorem law_loop {X : Ctx} {l0 : Launch} {E : Env1} {b n x m : Nat} {xs : Nat → Int32} (h : Cx X l0 E RL cL_law (some .boolean) 4 room_1) (hLX : LX X E b n xs) (hn : n ≤ 320) (hE : WF E) (hx : isK E x 7) (hm : isK E m 8) (hA : AlAll I E x m) (hend : ∀ L M, G X E (220, 3645) 1286 L [.int 1] M) : ∀ (k i : Nat) (M : Mem), n - i < k → i ≤ n → I E x m M → G X E (220, 3645) 18 [some (.ref b), some (.ref x), some (.ref m), some (.int (nI i))] [] M := by
  intro k
  induction k with
  | zero => intro i M hk; omega
  | succ k ih =>
  intro i M hk hin hI
  have hT : i + 5 ≤ n → ∀ M, I E x m M → G X E (220, 3645) 1279 [some (.ref b), some (.ref x), some (.ref m), some (.int (nI i))] [] M := by
    intro h5 M hI
    refine G_iinc2 h dL_law_1279 rfl ki_5 (by decide) (L' := [some (.ref b), some (.ref x), some (.ref m), some (.int (nI i + 5))]) rfl rfl ?_
    refine G_goto h dL_law_1282 (tgt := 18) (by decide) ?_
    rw [show nI i + (5 : Int32) = nI (i + 5) from nI_add i 5]
    exact ih (i + 5) M (by omega) (by omega) hI
  refine G_iload_n h dL_law_18 (i := 3) rfl rfl rfl ?_
  refine G_aload_n h dL_law_19 (i := 0) rfl rfl rfl ?_
  refine G_slen h hLX dL_law_20 rfl ?_
  refine G_iconst h dL_law_21 (v := 5) (by decide) rfl ?_
  refine G_isub h dL_law_22 rfl ?_
  refine G_icmp_gt h dL_law_23 (tgt := 1285) (by decide) rfl (fun _ => ?_) (fun c0 => ?_)
  · refine G_iconst h dL_law_1285 (v := 1) (by decide) rfl ?_
    exact hend _ _
  have h5 : i + 5 ≤ n := by
    have e1 : (nI n - (5 : Int32)).toInt = (n : Int) - (5 : Nat) := pk_sub_toInt (a := n) (b := 5) (by omega) (by decide)
    rw [Int32.lt_iff_toInt_lt, e1, nI_toInt (show i < 2 ^ 31 by omega)] at c0
    omega
  have v0 : vp_in (nI i) n := vp_in_nI (by omega) (by omega)
  have v1 : vp_in (nI i + 1) n := (nI_add i 1) ▸ vp_in_nI (by omega) (by omega)
  have v2 : vp_in (nI i + 2) n := (nI_add i 2) ▸ vp_in_nI (by omega) (by omega)
  have v3 : vp_in (nI i + 3) n := (nI_add i 3) ▸ vp_in_nI (by omega) (by omega)
  have v4 : vp_in (nI i + 4) n := (nI_add i 4) ▸ vp_in_nI (by omega) (by omega)
  refine G_aload_n h dL_law_26 (i := 0) rfl rfl rfl ?_
  refine G_iload_n h dL_law_27 (i := 3) rfl rfl rfl ?_
  refine G_sld h hLX v0 dL_law_28 rfl ?_
  refine G_bipush h dL_law_29 (v := 63) (by decide) rfl ?_
  refine G_iand h dL_law_31 rfl ?_
  obtain ⟨hA1, hA2⟩ : (∀ z : Nat, z = z) ∧ True := ⟨fun _ => rfl, trivial⟩
  generalize xs (ix (nI i)) &&& 63 = v
  obtain ⟨al0, al1, al2, al3, al4, al5, al6, al7, al8, al9, al10, al11, al12, al13, al14, al15, al16, al17, al18, al19, al20, al21, al22, al23, al24, al25, al26, al27, al28, al29, al30, al31, al32, al33, al34, al35, al36⟩ := hA M hI
  by_cases c0 : v = 0
  · refine G_tsIn h dL_law_32 c0 (v := 0) (j := 0) (by decide) (by decide) rfl (tgt := 196) (by decide) ?_
    obtain ⟨r, M1, M2, e1, e2, hI2⟩ := al0
    refine G_aload_n h dL_law_196 (i := 1) rfl rfl rfl ?_
    refine lc_13 h (ok_X8_house hE _ hx e1) dL_law_197 hx (as := []) rfl rfl rfl (Nat.le_of_ble_eq_true rfl) ?_
    refine G_aload_n h dL_law_200 (i := 2) rfl rfl rfl ?_
    refine lc_17 h (ok_X9_house hE _ hm e2) dL_law_201 hm (as := []) rfl rfl rfl (Nat.le_of_ble_eq_true rfl) ?_
    refine G_icmp_eq h dL_law_204 (tgt := 1279) (by decide) rfl (fun _ => ?_) (fun c => absurd rfl c)
    exact hT h5 M2 hI2
  by_cases c1 : v = 1
  · refine G_tsIn h dL_law_32 c1 (v := 1) (j := 1) (by decide) (by decide) rfl (tgt := 209) (by decide) ?_
    obtain ⟨r, M1, M2, e1, e2, hI2⟩ := al1 (xs (ix (nI i + 1))) (xs (ix (nI i + 2)))
    refine G_aload_n h dL_law_209 (i := 1) rfl rfl rfl ?_
    refine G_aload_n h dL_law_210 (i := 0) rfl rfl rfl ?_
    refine G_iload_n h dL_law_211 (i := 3) rfl rfl rfl ?_
    refine G_iconst h dL_law_212 (v := 1) (by decide) rfl ?_
    refine G_iadd h dL_law_213 rfl ?_
    refine G_sld h hLX v1 dL_law_214 rfl ?_
    refine G_aload_n h dL_law_215 (i := 0) rfl rfl rfl ?_
    refine G_iload_n h dL_law_216 (i := 3) rfl rfl rfl ?_
    refine G_iconst h dL_law_217 (v := 2) (by decide) rfl ?_
    refine G_iadd h dL_law_218 rfl ?_
    refine G_sld h hLX v2 dL_law_219 rfl ?_
    refine lc_18 h (ok_X8_one hE _ hx e1) dL_law_220 hx (as := [.int (xs (ix (nI i + 1))), .int (xs (ix (nI i + 2)))]) rfl rfl rfl (Nat.le_of_ble_eq_true rfl) ?_
    refine G_aload_n h dL_law_223 (i := 2) rfl rfl rfl ?_
    refine G_aload_n h dL_law_224 (i := 0) rfl rfl rfl ?_
    refine G_iload_n h dL_law_225 (i := 3) rfl rfl rfl ?_
    refine G_iconst h dL_law_226 (v := 1) (by decide) rfl ?_
    refine G_iadd h dL_law_227 rfl ?_
    refine G_sld h hLX v1 dL_law_228 rfl ?_
    refine G_aload_n h dL_law_229 (i := 0) rfl rfl rfl ?_
    refine G_iload_n h dL_law_230 (i := 3) rfl rfl rfl ?_
    refine G_iconst h dL_law_231 (v := 2) (by decide) rfl ?_
    refine G_iadd h dL_law_232 rfl ?_
    refine G_sld h hLX v2 dL_law_233 rfl ?_
    refine lc_22 h (ok_X9_one hE _ hm e2) dL_law_234 hm (as := [.int (xs (ix (nI i + 1))), .int (xs (ix (nI i + 2)))]) rfl rfl rfl (Nat.le_of_ble_eq_true rfl) ?_
    refine G_icmp_eq h dL_law_237 (tgt := 1279) (by decide) rfl (fun _ => ?_) (fun c => absurd rfl c)
    exact hT h5 M2 hI2
  by_cases c2 : v = 2
  · refine G_tsIn h dL_law_32 c2 (v := 2) (j := 2) (by decide) (by decide) rfl (tgt := 242) (by decide) ?_
    obtain ⟨r, M1, M2, e1, e2, hI2⟩ := al2 (xs (ix (nI i + 1)))
    refine G_aload_n h dL_law_242 (i := 1) rfl rfl rfl ?_
    refine G_aload_n h dL_law_243 (i := 0) rfl rfl rfl ?_
    refine G_iload_n h dL_law_244 (i := 3) rfl rfl rfl ?_
    refine G_iconst h dL_law_245 (v := 1) (by decide) rfl ?_
    refine G_iadd h dL_law_246 rfl ?_
    refine G_sld h hLX v1 dL_law_247 rfl ?_
    refine lc_23 h (ok_X8_type hE _ hx e1) dL_law_248 hx (as := [.int (xs (ix (nI i + 1)))]) rfl rfl rfl (Nat.le_of_ble_eq_true rfl) ?_
    refine G_aload_n h dL_law_251 (i := 2) rfl rfl rfl ?_
    refine G_aload_n h dL_law_252 (i := 0) rfl rfl rfl ?_
    refine G_iload_n h dL_law_253 (i := 3) rfl rfl rfl ?_
    refine G_iconst h dL_law_254 (v := 1) (by decide) rfl ?_
    refine G_iadd h dL_law_255 rfl ?_
    refine G_sld h hLX v1 dL_law_256 rfl ?_
    refine lc_27 h (ok_X9_type hE _ hm e2) dL_law_257 hm (as := [.int (xs (ix (nI i + 1)))]) rfl rfl rfl (Nat.le_of_ble_eq_true rfl) ?_
    refine G_icmp_eq h dL_law_260 (tgt := 1279) (by decide) rfl (fun _ => ?_) (fun c => absurd rfl c)
    exact hT h5 M2 hI2
  by_cases c3 : v = 3
  · refine G_tsIn h dL_law_32 c3 (v := 3) (j := 3) (by decide) (by decide) rfl (tgt := 265) (by decide) ?_
    obtain ⟨r, M1, M2, e1, e2, hI2⟩ := al3
    refine G_aload_n h dL_law_265 (i := 1) rfl rfl rfl ?_
    refine lc_28 h (ok_X8_clear hE _ hx e1) dL_law_266 hx (as := []) rfl rfl rfl (Nat.le_of_ble_eq_true rfl) ?_
    refine G_aload_n h dL_law_269 (i := 2) rfl rfl rfl ?_
    refine lc_31 h (ok_X9_clear hE _ hm e2) dL_law_270 hm (as := []) rfl rfl rfl (Nat.le_of_ble_eq_true rfl) ?_
    refine G_icmp_eq h dL_law_273 (tgt := 1279) (by decide) rfl (fun _ => ?_) (fun c => absurd rfl c)
    exact hT h5 M2 hI2
  by_cases c4 : v = 4
  · refine G_tsIn h dL_law_32 c4 (v := 4) (j := 4) (by decide) (by decide) rfl (tgt := 278) (by decide) ?_
    obtain ⟨r, M1, M2, e1, e2, hI2⟩ := al4
    refine G_aload_n h dL_law_278 (i := 1) rfl rfl rfl ?_
    refine lc_32 h (ok_X8_read hE _ hx e1) dL_law_279 hx (as := []) rfl rfl rfl (Nat.le_of_ble_eq_true rfl) ?_
    refine G_aload_n h dL_law_282 (i := 2) rfl rfl rfl ?_
    refine lc_35 h (ok_X9_read hE _ hm e2) dL_law_283 hm (as := []) rfl rfl rfl (Nat.le_of_ble_eq_true rfl) ?_
    refine G_icmp_eq h dL_law_286 (tgt := 1279) (by decide) rfl (fun _ => ?_) (fun c => absurd rfl c)
    exact hT h5 M2 hI2
  by_cases c5 : v = 5
  · refine G_tsIn h dL_law_32 c5 (v := 5) (j := 5) (by decide) (by decide) rfl (tgt := 291) (by decide) ?_
    obtain ⟨r, M1, M2, e1, e2, hI2⟩ := al5 (xs (ix (nI i + 1))) (xs (ix (nI i + 2)))
    refine G_aload_n h dL_law_291 (i := 1) rfl rfl rfl ?_
    refine G_aload_n h dL_law_292 (i := 0) rfl rfl rfl ?_
    refine G_iload_n h dL_law_293 (i := 3) rfl rfl rfl ?_
    refine G_iconst h dL_law_294 (v := 1) (by decide) rfl ?_
    refine G_iadd h dL_law_295 rfl ?_
    refine G_sld h hLX v1 dL_law_296 rfl ?_
    refine G_aload_n h dL_law_297 (i := 0) rfl rfl rfl ?_
    refine G_iload_n h dL_law_298 (i := 3) rfl rfl rfl ?_
    refine G_iconst h dL_law_299 (v := 2) (by decide) rfl ?_
    refine G_iadd h dL_law_300 rfl ?_
    refine G_sld h hLX v2 dL_law_301 rfl ?_
    refine lc_36 h (ok_X8_meets hE _ hx e1) dL_law_302 hx (as := [.int (xs (ix (nI i + 1))), .int (xs (ix (nI i + 2)))]) rfl rfl rfl (Nat.le_of_ble_eq_true rfl) ?_
    refine G_aload_n h dL_law_305 (i := 2) rfl rfl rfl ?_
    refine G_aload_n h dL_law_306 (i := 0) rfl rfl rfl ?_
    refine G_iload_n h dL_law_307 (i := 3) rfl rfl rfl ?_
    refine G_iconst h dL_law_308 (v := 1) (by decide) rfl ?_
    refine G_iadd h dL_law_309 rfl ?_
    refine G_sld h hLX v1 dL_law_310 rfl ?_
    refine G_aload_n h dL_law_311 (i := 0) rfl rfl rfl ?_
    refine G_iload_n h dL_law_312 (i := 3) rfl rfl rfl ?_
    refine G_iconst h dL_law_313 (v := 2) (by decide) rfl ?_
    refine G_iadd h dL_law_314 rfl ?_
    refine G_sld h hLX v2 dL_law_315 rfl ?_
    refine lc_39 h (ok_X9_meets hE _ hm e2) dL_law_316 hm (as := [.int (xs (ix (nI i + 1))), .int (xs (ix (nI i + 2)))]) rfl rfl rfl (Nat.le_of_ble_eq_true rfl) ?_
    refine G_icmp_eq h dL_law_319 (tgt := 1279) (by decide) rfl (fun _ => ?_) (fun c => absurd rfl c)
    exact hT h5 M2 hI2
  by_cases c6 : v = 6
  · refine G_tsIn h dL_law_32 c6 (v := 6) (j := 6) (by decide) (by decide) rfl (tgt := 324) (by decide) ?_
    obtain ⟨r, M1, M2, e1, e2, hI2⟩ := al6 (xs (ix (nI i + 1))) (xs (ix (nI i + 2)))
    refine G_aload_n h dL_law_324 (i := 1) rfl rfl rfl ?_
    refine G_aload_n h dL_law_325 (i := 0) rfl rfl rfl ?_
    refine G_iload_n h dL_law_326 (i := 3) rfl rfl rfl ?_
    refine G_iconst h dL_law_327 (v := 1) (by decide) rfl ?_
    refine G_iadd h dL_law_328 rfl ?_
    refine G_sld h hLX v1 dL_law_329 rfl ?_
    refine G_aload_n h dL_law_330 (i := 0) rfl rfl rfl ?_
    refine G_iload_n h dL_law_331 (i := 3) rfl rfl rfl ?_
    refine G_iconst h dL_law_332 (v := 2) (by decide) rfl ?_
    refine G_iadd h dL_law_333 rfl ?_
    refine G_sld h hLX v2 dL_law_334 rfl ?_
    refine lc_40 h (ok_X8_goes hE _ hx e1) dL_law_335 hx (as := [.int (xs (ix (nI i + 1))), .int (xs (ix (nI i + 2)))]) rfl rfl rfl (Nat.le_of_ble_eq_true rfl) ?_
    refine G_aload_n h dL_law_338 (i := 2) rfl rfl rfl ?_
    refine G_aload_n h dL_law_339 (i := 0) rfl rfl rfl ?_
    refine G_iload_n h dL_law_340 (i := 3) rfl rfl rfl ?_
    refine G_iconst h dL_law_341 (v := 1) (by decide) rfl ?_
    refine G_iadd h dL_law_342 rfl ?_
    refine G_sld h hLX v1 dL_law_343 rfl ?_
    refine G_aload_n h dL_law_344 (i := 0) rfl rfl rfl ?_
    refine G_iload_n h dL_law_345 (i := 3) rfl rfl rfl ?_
    refine G_iconst h dL_law_346 (v := 2) (by decide) rfl ?_
    refine G_iadd h dL_law_347 rfl ?_
    refine G_sld h hLX v2 dL_law_348 rfl ?_
    refine lc_43 h (ok_X9_goes hE _ hm e2) dL_law_349 hm (as := [.int (xs (ix (nI i + 1))), .int (xs (ix (nI i + 2)))]) rfl rfl rfl (Nat.le_of_ble_eq_true rfl) ?_
    refine G_icmp_eq h dL_law_352 (tgt := 1279) (by decide) rfl (fun _ => ?_) (fun c => absurd rfl c)
    exact hT h5 M2 hI2
  by_cases c7 : v = 7
  · refine G_tsIn h dL_law_32 c7 (v := 7) (j := 7) (by decide) (by decide) rfl (tgt := 357) (by decide) ?_
    obtain ⟨r, M1, M2, e1, e2, hI2⟩ := al7 (xs (ix (nI i + 1)))
    refine G_aload_n h dL_law_357 (i := 1) rfl rfl rfl ?_
    refine G_aload_n h dL_law_358 (i := 0) rfl rfl rfl ?_
    refine G_iload_n h dL_law_359 (i := 3) rfl rfl rfl ?_
    refine G_iconst h dL_law_360 (v := 1) (by decide) rfl ?_
    refine G_iadd h dL_law_361 rfl ?_
    refine G_sld h hLX v1 dL_law_362 rfl ?_
    refine lc_44 h (ok_X8_waits hE _ hx e1) dL_law_363 hx (as := [.int (xs (ix (nI i + 1)))]) rfl rfl rfl (Nat.le_of_ble_eq_true rfl) ?_
    refine G_aload_n h dL_law_366 (i := 2) rfl rfl rfl ?_
    refine G_aload_n h dL_law_367 (i := 0) rfl rfl rfl ?_
    refine G_iload_n h dL_law_368 (i := 3) rfl rfl rfl ?_
    refine G_iconst h dL_law_369 (v := 1) (by decide) rfl ?_
    refine G_iadd h dL_law_370 rfl ?_
    refine G_sld h hLX v1 dL_law_371 rfl ?_
    refine lc_47 h (ok_X9_waits hE _ hm e2) dL_law_372 hm (as := [.int (xs (ix (nI i + 1)))]) rfl rfl rfl (Nat.le_of_ble_eq_true rfl) ?_
    refine G_icmp_eq h dL_law_375 (tgt := 1279) (by decide) rfl (fun _ => ?_) (fun c => absurd rfl c)
    exact hT h5 M2 hI2
  by_cases c8 : v = 8
  · refine G_tsIn h dL_law_32 c8 (v := 8) (j := 8) (by decide) (by decide) rfl (tgt := 380) (by decide) ?_
    obtain ⟨r, M1, M2, e1, e2, hI2⟩ := al8 (xs (ix (nI i + 1))) (xs (ix (nI i + 2)))
    refine G_aload_n h dL_law_380 (i := 1) rfl rfl rfl ?_
    refine G_aload_n h dL_law_381 (i := 0) rfl rfl rfl ?_
    refine G_iload_n h dL_law_382 (i := 3) rfl rfl rfl ?_
    refine G_iconst h dL_law_383 (v := 1) (by decide) rfl ?_
    refine G_iadd h dL_law_384 rfl ?_
    refine G_sld h hLX v1 dL_law_385 rfl ?_
    refine G_aload_n h dL_law_386 (i := 0) rfl rfl rfl ?_
    refine G_iload_n h dL_law_387 (i := 3) rfl rfl rfl ?_
    refine G_iconst h dL_law_388 (v := 2) (by decide) rfl ?_
    refine G_iadd h dL_law_389 rfl ?_
    refine G_sld h hLX v2 dL_law_390 rfl ?_
    refine lc_48 h (ok_X8_carpet hE _ hx e1) dL_law_391 hx (as := [.int (xs (ix (nI i + 1))), .int (xs (ix (nI i + 2)))]) rfl rfl rfl (Nat.le_of_ble_eq_true rfl) ?_
    refine G_aload_n h dL_law_394 (i := 2) rfl rfl rfl ?_
    refine G_aload_n h dL_law_395 (i := 0) rfl rfl rfl ?_
    refine G_iload_n h dL_law_396 (i := 3) rfl rfl rfl ?_
    refine G_iconst h dL_law_397 (v := 1) (by decide) rfl ?_
    refine G_iadd h dL_law_398 rfl ?_
    refine G_sld h hLX v1 dL_law_399 rfl ?_
    refine G_aload_n h dL_law_400 (i := 0) rfl rfl rfl ?_
    refine G_iload_n h dL_law_401 (i := 3) rfl rfl rfl ?_
    refine G_iconst h dL_law_402 (v := 2) (by decide) rfl ?_
    refine G_iadd h dL_law_403 rfl ?_
    refine G_sld h hLX v2 dL_law_404 rfl ?_
    refine lc_51 h (ok_X9_carpet hE _ hm e2) dL_law_405 hm (as := [.int (xs (ix (nI i + 1))), .int (xs (ix (nI i + 2)))]) rfl rfl rfl (Nat.le_of_ble_eq_true rfl) ?_
    refine G_icmp_eq h dL_law_408 (tgt := 1279) (by decide) rfl (fun _ => ?_) (fun c => absurd rfl c)
    exact hT h5 M2 hI2
  by_cases c9 : v = 9
  · refine G_tsIn h dL_law_32 c9 (v := 9) (j := 9) (by decide) (by decide) rfl (tgt := 413) (by decide) ?_
    obtain ⟨r, M1, M2, e1, e2, hI2⟩ := al9 (xs (ix (nI i + 1))) (xs (ix (nI i + 2)))
    refine G_aload_n h dL_law_413 (i := 1) rfl rfl rfl ?_
    refine G_aload_n h dL_law_414 (i := 0) rfl rfl rfl ?_
    refine G_iload_n h dL_law_415 (i := 3) rfl rfl rfl ?_
    refine G_iconst h dL_law_416 (v := 1) (by decide) rfl ?_
    refine G_iadd h dL_law_417 rfl ?_
    refine G_sld h hLX v1 dL_law_418 rfl ?_
    refine G_aload_n h dL_law_419 (i := 0) rfl rfl rfl ?_
    refine G_iload_n h dL_law_420 (i := 3) rfl rfl rfl ?_
    refine G_iconst h dL_law_421 (v := 2) (by decide) rfl ?_
    refine G_iadd h dL_law_422 rfl ?_
    refine G_sld h hLX v2 dL_law_423 rfl ?_
    refine lc_52 h (ok_X8_step hE _ hx e1) dL_law_424 hx (as := [.int (xs (ix (nI i + 1))), .int (xs (ix (nI i + 2)))]) rfl rfl rfl (Nat.le_of_ble_eq_true rfl) ?_
    refine G_aload_n h dL_law_427 (i := 2) rfl rfl rfl ?_
    refine G_aload_n h dL_law_428 (i := 0) rfl rfl rfl ?_
    refine G_iload_n h dL_law_429 (i := 3) rfl rfl rfl ?_
    refine G_iconst h dL_law_430 (v := 1) (by decide) rfl ?_
    refine G_iadd h dL_law_431 rfl ?_
    refine G_sld h hLX v1 dL_law_432 rfl ?_
    refine G_aload_n h dL_law_433 (i := 0) rfl rfl rfl ?_
    refine G_iload_n h dL_law_434 (i := 3) rfl rfl rfl ?_
    refine G_iconst h dL_law_435 (v := 2) (by decide) rfl ?_
    refine G_iadd h dL_law_436 rfl ?_
    refine G_sld h hLX v2 dL_law_437 rfl ?_
    refine lc_55 h (ok_X9_step hE _ hm e2) dL_law_438 hm (as := [.int (xs (ix (nI i + 1))), .int (xs (ix (nI i + 2)))]) rfl rfl rfl (Nat.le_of_ble_eq_true rfl) ?_
    refine G_icmp_eq h dL_law_441 (tgt := 1279) (by decide) rfl (fun _ => ?_) (fun c => absurd rfl c)
    exact hT h5 M2 hI2
  by_cases c10 : v = 10
  · refine G_tsIn h dL_law_32 c10 (v := 10) (j := 10) (by decide) (by decide) rfl (tgt := 446) (by decide) ?_
    obtain ⟨r, M1, M2, e1, e2, hI2⟩ := al10
    refine G_aload_n h dL_law_446 (i := 1) rfl rfl rfl ?_
    refine lc_56 h (ok_X8_undo hE _ hx e1) dL_law_447 hx (as := []) rfl rfl rfl (Nat.le_of_ble_eq_true rfl) ?_
    refine G_aload_n h dL_law_450 (i := 2) rfl rfl rfl ?_
    refine lc_59 h (ok_X9_undo hE _ hm e2) dL_law_451 hm (as := []) rfl rfl rfl (Nat.le_of_ble_eq_true rfl) ?_
    refine G_icmp_eq h dL_law_454 (tgt := 1279) (by decide) rfl (fun _ => ?_) (fun c => absurd rfl c)
    exact hT h5 M2 hI2
  by_cases c11 : v = 11
  · refine G_tsIn h dL_law_32 c11 (v := 11) (j := 11) (by decide) (by decide) rfl (tgt := 459) (by decide) ?_
    obtain ⟨r, M1, M2, e1, e2, hI2⟩ := al11 (xs (ix (nI i + 1))) (xs (ix (nI i + 2)))
    refine G_aload_n h dL_law_459 (i := 1) rfl rfl rfl ?_
    refine G_aload_n h dL_law_460 (i := 0) rfl rfl rfl ?_
    refine G_iload_n h dL_law_461 (i := 3) rfl rfl rfl ?_
    refine G_iconst h dL_law_462 (v := 1) (by decide) rfl ?_
    refine G_iadd h dL_law_463 rfl ?_
    refine G_sld h hLX v1 dL_law_464 rfl ?_
    refine G_aload_n h dL_law_465 (i := 0) rfl rfl rfl ?_
    refine G_iload_n h dL_law_466 (i := 3) rfl rfl rfl ?_
    refine G_iconst h dL_law_467 (v := 2) (by decide) rfl ?_
    refine G_iadd h dL_law_468 rfl ?_
    refine G_sld h hLX v2 dL_law_469 rfl ?_
    refine lc_60 h (ok_X8_of hE _ hx e1) dL_law_470 hx (as := [.int (xs (ix (nI i + 1))), .int (xs (ix (nI i + 2)))]) rfl rfl rfl (Nat.le_of_ble_eq_true rfl) ?_
    refine G_aload_n h dL_law_473 (i := 2) rfl rfl rfl ?_
    refine G_aload_n h dL_law_474 (i := 0) rfl rfl rfl ?_
    refine G_iload_n h dL_law_475 (i := 3) rfl rfl rfl ?_
    refine G_iconst h dL_law_476 (v := 1) (by decide) rfl ?_
    refine G_iadd h dL_law_477 rfl ?_
    refine G_sld h hLX v1 dL_law_478 rfl ?_
    refine G_aload_n h dL_law_479 (i := 0) rfl rfl rfl ?_
    refine G_iload_n h dL_law_480 (i := 3) rfl rfl rfl ?_
    refine G_iconst h dL_law_481 (v := 2) (by decide) rfl ?_
    refine G_iadd h dL_law_482 rfl ?_
    refine G_sld h hLX v2 dL_law_483 rfl ?_
    refine lc_63 h (ok_X9_of hE _ hm e2) dL_law_484 hm (as := [.int (xs (ix (nI i + 1))), .int (xs (ix (nI i + 2)))]) rfl rfl rfl (Nat.le_of_ble_eq_true rfl) ?_
    refine G_icmp_eq h dL_law_487 (tgt := 1279) (by decide) rfl (fun _ => ?_) (fun c => absurd rfl c)
    exact hT h5 M2 hI2
  by_cases c12 : v = 12
  · refine G_tsIn h dL_law_32 c12 (v := 12) (j := 12) (by decide) (by decide) rfl (tgt := 492) (by decide) ?_
    obtain ⟨r, M1, M2, e1, e2, hI2⟩ := al12 (xs (ix (nI i + 1))) (xs (ix (nI i + 2)))
    refine G_aload_n h dL_law_492 (i := 1) rfl rfl rfl ?_
    refine G_aload_n h dL_law_493 (i := 0) rfl rfl rfl ?_
    refine G_iload_n h dL_law_494 (i := 3) rfl rfl rfl ?_
    refine G_iconst h dL_law_495 (v := 1) (by decide) rfl ?_
    refine G_iadd h dL_law_496 rfl ?_
    refine G_sld h hLX v1 dL_law_497 rfl ?_
    refine G_aload_n h dL_law_498 (i := 0) rfl rfl rfl ?_
    refine G_iload_n h dL_law_499 (i := 3) rfl rfl rfl ?_
    refine G_iconst h dL_law_500 (v := 2) (by decide) rfl ?_
    refine G_iadd h dL_law_501 rfl ?_
    refine G_sld h hLX v2 dL_law_502 rfl ?_
    refine lc_64 h (ok_X8_about hE _ hx e1) dL_law_503 hx (as := [.int (xs (ix (nI i + 1))), .int (xs (ix (nI i + 2)))]) rfl rfl rfl (Nat.le_of_ble_eq_true rfl) ?_
    refine G_aload_n h dL_law_506 (i := 2) rfl rfl rfl ?_
    refine G_aload_n h dL_law_507 (i := 0) rfl rfl rfl ?_
    refine G_iload_n h dL_law_508 (i := 3) rfl rfl rfl ?_
    refine G_iconst h dL_law_509 (v := 1) (by decide) rfl ?_
    refine G_iadd h dL_law_510 rfl ?_
    refine G_sld h hLX v1 dL_law_511 rfl ?_
    refine G_aload_n h dL_law_512 (i := 0) rfl rfl rfl ?_
    refine G_iload_n h dL_law_513 (i := 3) rfl rfl rfl ?_
    refine G_iconst h dL_law_514 (v := 2) (by decide) rfl ?_
    refine G_iadd h dL_law_515 rfl ?_
    refine G_sld h hLX v2 dL_law_516 rfl ?_
    refine lc_67 h (ok_X9_about hE _ hm e2) dL_law_517 hm (as := [.int (xs (ix (nI i + 1))), .int (xs (ix (nI i + 2)))]) rfl rfl rfl (Nat.le_of_ble_eq_true rfl) ?_
    refine G_icmp_eq h dL_law_520 (tgt := 1279) (by decide) rfl (fun _ => ?_) (fun c => absurd rfl c)
    exact hT h5 M2 hI2
  by_cases c13 : v = 13
  · refine G_tsIn h dL_law_32 c13 (v := 13) (j := 13) (by decide) (by decide) rfl (tgt := 525) (by decide) ?_
    obtain ⟨r, M1, M2, e1, e2, hI2⟩ := al13 (xs (ix (nI i + 1))) (xs (ix (nI i + 2))) (xs (ix (nI i + 3)))
    refine G_aload_n h dL_law_525 (i := 1) rfl rfl rfl ?_
    refine G_aload_n h dL_law_526 (i := 0) rfl rfl rfl ?_
    refine G_iload_n h dL_law_527 (i := 3) rfl rfl rfl ?_
    refine G_iconst h dL_law_528 (v := 1) (by decide) rfl ?_
    refine G_iadd h dL_law_529 rfl ?_
    refine G_sld h hLX v1 dL_law_530 rfl ?_
    refine G_aload_n h dL_law_531 (i := 0) rfl rfl rfl ?_
    refine G_iload_n h dL_law_532 (i := 3) rfl rfl rfl ?_
    refine G_iconst h dL_law_533 (v := 2) (by decide) rfl ?_
    refine G_iadd h dL_law_534 rfl ?_
    refine G_sld h hLX v2 dL_law_535 rfl ?_
    refine G_aload_n h dL_law_536 (i := 0) rfl rfl rfl ?_
    refine G_iload_n h dL_law_537 (i := 3) rfl rfl rfl ?_
    refine G_iconst h dL_law_538 (v := 3) (by decide) rfl ?_
    refine G_iadd h dL_law_539 rfl ?_
    refine G_sld h hLX v3 dL_law_540 rfl ?_
    refine lc_68 h (ok_X8_asks hE _ hx e1) dL_law_541 hx (as := [.int (xs (ix (nI i + 1))), .int (xs (ix (nI i + 2))), .int (xs (ix (nI i + 3)))]) rfl rfl rfl (Nat.le_of_ble_eq_true rfl) ?_
    refine G_aload_n h dL_law_544 (i := 2) rfl rfl rfl ?_
    refine G_aload_n h dL_law_545 (i := 0) rfl rfl rfl ?_
    refine G_iload_n h dL_law_546 (i := 3) rfl rfl rfl ?_
    refine G_iconst h dL_law_547 (v := 1) (by decide) rfl ?_
    refine G_iadd h dL_law_548 rfl ?_
    refine G_sld h hLX v1 dL_law_549 rfl ?_
    refine G_aload_n h dL_law_550 (i := 0) rfl rfl rfl ?_
    refine G_iload_n h dL_law_551 (i := 3) rfl rfl rfl ?_
    refine G_iconst h dL_law_552 (v := 2) (by decide) rfl ?_
    refine G_iadd h dL_law_553 rfl ?_
    refine G_sld h hLX v2 dL_law_554 rfl ?_
    refine G_aload_n h dL_law_555 (i := 0) rfl rfl rfl ?_
    refine G_iload_n h dL_law_556 (i := 3) rfl rfl rfl ?_
    refine G_iconst h dL_law_557 (v := 3) (by decide) rfl ?_
    refine G_iadd h dL_law_558 rfl ?_
    refine G_sld h hLX v3 dL_law_559 rfl ?_
    refine lc_72 h (ok_X9_asks hE _ hm e2) dL_law_560 hm (as := [.int (xs (ix (nI i + 1))), .int (xs (ix (nI i + 2))), .int (xs (ix (nI i + 3)))]) rfl rfl rfl (Nat.le_of_ble_eq_true rfl) ?_
    refine G_icmp_eq h dL_law_563 (tgt := 1279) (by decide) rfl (fun _ => ?_) (fun c => absurd rfl c)
    exact hT h5 M2 hI2
  by_cases c14 : v = 14
  · refine G_tsIn h dL_law_32 c14 (v := 14) (j := 14) (by decide) (by decide) rfl (tgt := 568) (by decide) ?_
    obtain ⟨r, M1, M2, e1, e2, hI2⟩ := al14 (xs (ix (nI i + 1)))
    refine G_aload_n h dL_law_568 (i := 1) rfl rfl rfl ?_
    refine G_aload_n h dL_law_569 (i := 0) rfl rfl rfl ?_
    refine G_iload_n h dL_law_570 (i := 3) rfl rfl rfl ?_
    refine G_iconst h dL_law_571 (v := 1) (by decide) rfl ?_
    refine G_iadd h dL_law_572 rfl ?_
    refine G_sld h hLX v1 dL_law_573 rfl ?_
    refine lc_73 h (ok_X8_word hE _ hx e1) dL_law_574 hx (as := [.int (xs (ix (nI i + 1)))]) rfl rfl rfl (Nat.le_of_ble_eq_true rfl) ?_
    refine G_aload_n h dL_law_577 (i := 2) rfl rfl rfl ?_
    refine G_aload_n h dL_law_578 (i := 0) rfl rfl rfl ?_
    refine G_iload_n h dL_law_579 (i := 3) rfl rfl rfl ?_
    refine G_iconst h dL_law_580 (v := 1) (by decide) rfl ?_
    refine G_iadd h dL_law_581 rfl ?_
    refine G_sld h hLX v1 dL_law_582 rfl ?_
    refine lc_76 h (ok_X9_word hE _ hm e2) dL_law_583 hm (as := [.int (xs (ix (nI i + 1)))]) rfl rfl rfl (Nat.le_of_ble_eq_true rfl) ?_
    refine G_icmp_eq h dL_law_586 (tgt := 1279) (by decide) rfl (fun _ => ?_) (fun c => absurd rfl c)
    exact hT h5 M2 hI2
  by_cases c15 : v = 15
  · refine G_tsIn h dL_law_32 c15 (v := 15) (j := 15) (by decide) (by decide) rfl (tgt := 591) (by decide) ?_
    obtain ⟨r, M1, M2, e1, e2, hI2⟩ := al15 (xs (ix (nI i + 1)))
    refine G_aload_n h dL_law_591 (i := 1) rfl rfl rfl ?_
    refine G_aload_n h dL_law_592 (i := 0) rfl rfl rfl ?_
    refine G_iload_n h dL_law_593 (i := 3) rfl rfl rfl ?_
    refine G_iconst h dL_law_594 (v := 1) (by decide) rfl ?_
    refine G_iadd h dL_law_595 rfl ?_
    refine G_sld h hLX v1 dL_law_596 rfl ?_
    refine lc_77 h (ok_X8_high hE _ hx e1) dL_law_597 hx (as := [.int (xs (ix (nI i + 1)))]) rfl rfl rfl (Nat.le_of_ble_eq_true rfl) ?_
    refine G_aload_n h dL_law_600 (i := 2) rfl rfl rfl ?_
    refine G_aload_n h dL_law_601 (i := 0) rfl rfl rfl ?_
    refine G_iload_n h dL_law_602 (i := 3) rfl rfl rfl ?_
    refine G_iconst h dL_law_603 (v := 1) (by decide) rfl ?_
    refine G_iadd h dL_law_604 rfl ?_
    refine G_sld h hLX v1 dL_law_605 rfl ?_
    refine lc_80 h (ok_X9_high hE _ hm e2) dL_law_606 hm (as := [.int (xs (ix (nI i + 1)))]) rfl rfl rfl (Nat.le_of_ble_eq_true rfl) ?_
    refine G_icmp_eq h dL_law_609 (tgt := 1279) (by decide) rfl (fun _ => ?_) (fun c => absurd rfl c)
    exact hT h5 M2 hI2
  by_cases c16 : v = 16
  · refine G_tsIn h dL_law_32 c16 (v := 16) (j := 16) (by decide) (by decide) rfl (tgt := 614) (by decide) ?_
    obtain ⟨r, M1, M2, e1, e2, hI2⟩ := al16 (xs (ix (nI i + 1))) (xs (ix (nI i + 2)))
    refine G_aload_n h dL_law_614 (i := 1) rfl rfl rfl ?_
    refine G_aload_n h dL_law_615 (i := 0) rfl rfl rfl ?_
    refine G_iload_n h dL_law_616 (i := 3) rfl rfl rfl ?_
    refine G_iconst h dL_law_617 (v := 1) (by decide) rfl ?_
    refine G_iadd h dL_law_618 rfl ?_
    refine G_sld h hLX v1 dL_law_619 rfl ?_
    refine G_aload_n h dL_law_620 (i := 0) rfl rfl rfl ?_
    refine G_iload_n h dL_law_621 (i := 3) rfl rfl rfl ?_
    refine G_iconst h dL_law_622 (v := 2) (by decide) rfl ?_
    refine G_iadd h dL_law_623 rfl ?_
    refine G_sld h hLX v2 dL_law_624 rfl ?_
    refine lc_81 h (ok_X8_hears hE _ hx e1) dL_law_625 hx (as := [.int (xs (ix (nI i + 1))), .int (xs (ix (nI i + 2)))]) rfl rfl rfl (Nat.le_of_ble_eq_true rfl) ?_
    refine G_aload_n h dL_law_628 (i := 2) rfl rfl rfl ?_
    refine G_aload_n h dL_law_629 (i := 0) rfl rfl rfl ?_
    refine G_iload_n h dL_law_630 (i := 3) rfl rfl rfl ?_
    refine G_iconst h dL_law_631 (v := 1) (by decide) rfl ?_
    refine G_iadd h dL_law_632 rfl ?_
    refine G_sld h hLX v1 dL_law_633 rfl ?_
    refine G_aload_n h dL_law_634 (i := 0) rfl rfl rfl ?_
    refine G_iload_n h dL_law_635 (i := 3) rfl rfl rfl ?_
    refine G_iconst h dL_law_636 (v := 2) (by decide) rfl ?_
    refine G_iadd h dL_law_637 rfl ?_
    refine G_sld h hLX v2 dL_law_638 rfl ?_
    refine lc_84 h (ok_X9_hears hE _ hm e2) dL_law_639 hm (as := [.int (xs (ix (nI i + 1))), .int (xs (ix (nI i + 2)))]) rfl rfl rfl (Nat.le_of_ble_eq_true rfl) ?_
    refine G_icmp_eq h dL_law_642 (tgt := 1279) (by decide) rfl (fun _ => ?_) (fun c => absurd rfl c)
    exact hT h5 M2 hI2
  by_cases c17 : v = 17
  · refine G_tsIn h dL_law_32 c17 (v := 17) (j := 17) (by decide) (by decide) rfl (tgt := 647) (by decide) ?_
    obtain ⟨r, M1, M2, e1, e2, hI2⟩ := al17 (xs (ix (nI i + 1))) (xs (ix (nI i + 2)))
    refine G_aload_n h dL_law_647 (i := 1) rfl rfl rfl ?_
    refine G_aload_n h dL_law_648 (i := 0) rfl rfl rfl ?_
    refine G_iload_n h dL_law_649 (i := 3) rfl rfl rfl ?_
    refine G_iconst h dL_law_650 (v := 1) (by decide) rfl ?_
    refine G_iadd h dL_law_651 rfl ?_
    refine G_sld h hLX v1 dL_law_652 rfl ?_
    refine G_aload_n h dL_law_653 (i := 0) rfl rfl rfl ?_
    refine G_iload_n h dL_law_654 (i := 3) rfl rfl rfl ?_
    refine G_iconst h dL_law_655 (v := 2) (by decide) rfl ?_
    refine G_iadd h dL_law_656 rfl ?_
    refine G_sld h hLX v2 dL_law_657 rfl ?_
    refine lc_85 h (ok_X8_then hE _ hx e1) dL_law_658 hx (as := [.int (xs (ix (nI i + 1))), .int (xs (ix (nI i + 2)))]) rfl rfl rfl (Nat.le_of_ble_eq_true rfl) ?_
    refine G_aload_n h dL_law_661 (i := 2) rfl rfl rfl ?_
    refine G_aload_n h dL_law_662 (i := 0) rfl rfl rfl ?_
    refine G_iload_n h dL_law_663 (i := 3) rfl rfl rfl ?_
    refine G_iconst h dL_law_664 (v := 1) (by decide) rfl ?_
    refine G_iadd h dL_law_665 rfl ?_
    refine G_sld h hLX v1 dL_law_666 rfl ?_
    refine G_aload_n h dL_law_667 (i := 0) rfl rfl rfl ?_
    refine G_iload_n h dL_law_668 (i := 3) rfl rfl rfl ?_
    refine G_iconst h dL_law_669 (v := 2) (by decide) rfl ?_
    refine G_iadd h dL_law_670 rfl ?_
    refine G_sld h hLX v2 dL_law_671 rfl ?_
    refine lc_88 h (ok_X9_then hE _ hm e2) dL_law_672 hm (as := [.int (xs (ix (nI i + 1))), .int (xs (ix (nI i + 2)))]) rfl rfl rfl (Nat.le_of_ble_eq_true rfl) ?_
    refine G_icmp_eq h dL_law_675 (tgt := 1279) (by decide) rfl (fun _ => ?_) (fun c => absurd rfl c)
    exact hT h5 M2 hI2
  by_cases c18 : v = 18
  · refine G_tsIn h dL_law_32 c18 (v := 18) (j := 18) (by decide) (by decide) rfl (tgt := 680) (by decide) ?_
    obtain ⟨r, M1, M2, e1, e2, hI2⟩ := al18 (xs (ix (nI i + 1))) (xs (ix (nI i + 2))) (xs (ix (nI i + 3)))
    refine G_aload_n h dL_law_680 (i := 1) rfl rfl rfl ?_
    refine G_aload_n h dL_law_681 (i := 0) rfl rfl rfl ?_
    refine G_iload_n h dL_law_682 (i := 3) rfl rfl rfl ?_
    refine G_iconst h dL_law_683 (v := 1) (by decide) rfl ?_
    refine G_iadd h dL_law_684 rfl ?_
    refine G_sld h hLX v1 dL_law_685 rfl ?_
    refine G_aload_n h dL_law_686 (i := 0) rfl rfl rfl ?_
    refine G_iload_n h dL_law_687 (i := 3) rfl rfl rfl ?_
    refine G_iconst h dL_law_688 (v := 2) (by decide) rfl ?_
    refine G_iadd h dL_law_689 rfl ?_
    refine G_sld h hLX v2 dL_law_690 rfl ?_
    refine G_aload_n h dL_law_691 (i := 0) rfl rfl rfl ?_
    refine G_iload_n h dL_law_692 (i := 3) rfl rfl rfl ?_
    refine G_iconst h dL_law_693 (v := 3) (by decide) rfl ?_
    refine G_iadd h dL_law_694 rfl ?_
    refine G_sld h hLX v3 dL_law_695 rfl ?_
    refine lc_89 h (ok_X8_plan hE _ hx e1) dL_law_696 hx (as := [.int (xs (ix (nI i + 1))), .int (xs (ix (nI i + 2))), .int (xs (ix (nI i + 3)))]) rfl rfl rfl (Nat.le_of_ble_eq_true rfl) ?_
    refine G_aload_n h dL_law_699 (i := 2) rfl rfl rfl ?_
    refine G_aload_n h dL_law_700 (i := 0) rfl rfl rfl ?_
    refine G_iload_n h dL_law_701 (i := 3) rfl rfl rfl ?_
    refine G_iconst h dL_law_702 (v := 1) (by decide) rfl ?_
    refine G_iadd h dL_law_703 rfl ?_
    refine G_sld h hLX v1 dL_law_704 rfl ?_
    refine G_aload_n h dL_law_705 (i := 0) rfl rfl rfl ?_
    refine G_iload_n h dL_law_706 (i := 3) rfl rfl rfl ?_
    refine G_iconst h dL_law_707 (v := 2) (by decide) rfl ?_
    refine G_iadd h dL_law_708 rfl ?_
    refine G_sld h hLX v2 dL_law_709 rfl ?_
    refine G_aload_n h dL_law_710 (i := 0) rfl rfl rfl ?_
    refine G_iload_n h dL_law_711 (i := 3) rfl rfl rfl ?_
    refine G_iconst h dL_law_712 (v := 3) (by decide) rfl ?_
    refine G_iadd h dL_law_713 rfl ?_
    refine G_sld h hLX v3 dL_law_714 rfl ?_
    refine lc_92 h (ok_X9_plan hE _ hm e2) dL_law_715 hm (as := [.int (xs (ix (nI i + 1))), .int (xs (ix (nI i + 2))), .int (xs (ix (nI i + 3)))]) rfl rfl rfl (Nat.le_of_ble_eq_true rfl) ?_
    refine G_icmp_eq h dL_law_718 (tgt := 1279) (by decide) rfl (fun _ => ?_) (fun c => absurd rfl c)
    exact hT h5 M2 hI2
  by_cases c19 : v = 19
  · refine G_tsIn h dL_law_32 c19 (v := 19) (j := 19) (by decide) (by decide) rfl (tgt := 723) (by decide) ?_
    obtain ⟨r, M1, M2, e1, e2, hI2⟩ := al19 (xs (ix (nI i + 1))) (xs (ix (nI i + 2))) (xs (ix (nI i + 3)))
    refine G_aload_n h dL_law_723 (i := 1) rfl rfl rfl ?_
    refine G_aload_n h dL_law_724 (i := 0) rfl rfl rfl ?_
    refine G_iload_n h dL_law_725 (i := 3) rfl rfl rfl ?_
    refine G_iconst h dL_law_726 (v := 1) (by decide) rfl ?_
    refine G_iadd h dL_law_727 rfl ?_
    refine G_sld h hLX v1 dL_law_728 rfl ?_
    refine G_aload_n h dL_law_729 (i := 0) rfl rfl rfl ?_
    refine G_iload_n h dL_law_730 (i := 3) rfl rfl rfl ?_
    refine G_iconst h dL_law_731 (v := 2) (by decide) rfl ?_
    refine G_iadd h dL_law_732 rfl ?_
    refine G_sld h hLX v2 dL_law_733 rfl ?_
    refine G_aload_n h dL_law_734 (i := 0) rfl rfl rfl ?_
    refine G_iload_n h dL_law_735 (i := 3) rfl rfl rfl ?_
    refine G_iconst h dL_law_736 (v := 3) (by decide) rfl ?_
    refine G_iadd h dL_law_737 rfl ?_
    refine G_sld h hLX v3 dL_law_738 rfl ?_
    refine lc_93 h (ok_X8_seen hE _ hx e1) dL_law_739 hx (as := [.int (xs (ix (nI i + 1))), .int (xs (ix (nI i + 2))), .int (xs (ix (nI i + 3)))]) rfl rfl rfl (Nat.le_of_ble_eq_true rfl) ?_
    refine G_aload_n h dL_law_742 (i := 2) rfl rfl rfl ?_
    refine G_aload_n h dL_law_743 (i := 0) rfl rfl rfl ?_
    refine G_iload_n h dL_law_744 (i := 3) rfl rfl rfl ?_
    refine G_iconst h dL_law_745 (v := 1) (by decide) rfl ?_
    refine G_iadd h dL_law_746 rfl ?_
    refine G_sld h hLX v1 dL_law_747 rfl ?_
    refine G_aload_n h dL_law_748 (i := 0) rfl rfl rfl ?_
    refine G_iload_n h dL_law_749 (i := 3) rfl rfl rfl ?_
    refine G_iconst h dL_law_750 (v := 2) (by decide) rfl ?_
    refine G_iadd h dL_law_751 rfl ?_
    refine G_sld h hLX v2 dL_law_752 rfl ?_
    refine G_aload_n h dL_law_753 (i := 0) rfl rfl rfl ?_
    refine G_iload_n h dL_law_754 (i := 3) rfl rfl rfl ?_
    refine G_iconst h dL_law_755 (v := 3) (by decide) rfl ?_
    refine G_iadd h dL_law_756 rfl ?_
    refine G_sld h hLX v3 dL_law_757 rfl ?_
    refine lc_96 h (ok_X9_seen hE _ hm e2) dL_law_758 hm (as := [.int (xs (ix (nI i + 1))), .int (xs (ix (nI i + 2))), .int (xs (ix (nI i + 3)))]) rfl rfl rfl (Nat.le_of_ble_eq_true rfl) ?_
    refine G_icmp_eq h dL_law_761 (tgt := 1279) (by decide) rfl (fun _ => ?_) (fun c => absurd rfl c)
    exact hT h5 M2 hI2
  by_cases c20 : v = 20
  · refine G_tsIn h dL_law_32 c20 (v := 20) (j := 20) (by decide) (by decide) rfl (tgt := 766) (by decide) ?_
    obtain ⟨r, M1, M2, e1, e2, hI2⟩ := al20 (xs (ix (nI i + 1))) (xs (ix (nI i + 2)))
    refine G_aload_n h dL_law_766 (i := 1) rfl rfl rfl ?_
    refine G_aload_n h dL_law_767 (i := 0) rfl rfl rfl ?_
    refine G_iload_n h dL_law_768 (i := 3) rfl rfl rfl ?_
    refine G_iconst h dL_law_769 (v := 1) (by decide) rfl ?_
    refine G_iadd h dL_law_770 rfl ?_
    refine G_sld h hLX v1 dL_law_771 rfl ?_
    refine G_aload_n h dL_law_772 (i := 0) rfl rfl rfl ?_
    refine G_iload_n h dL_law_773 (i := 3) rfl rfl rfl ?_
    refine G_iconst h dL_law_774 (v := 2) (by decide) rfl ?_
    refine G_iadd h dL_law_775 rfl ?_
    refine G_sld h hLX v2 dL_law_776 rfl ?_
    refine lc_97 h (ok_X8_may hE _ hx e1) dL_law_777 hx (as := [.int (xs (ix (nI i + 1))), .int (xs (ix (nI i + 2)))]) rfl rfl rfl (Nat.le_of_ble_eq_true rfl) ?_
    refine G_aload_n h dL_law_780 (i := 2) rfl rfl rfl ?_
    refine G_aload_n h dL_law_781 (i := 0) rfl rfl rfl ?_
    refine G_iload_n h dL_law_782 (i := 3) rfl rfl rfl ?_
    refine G_iconst h dL_law_783 (v := 1) (by decide) rfl ?_
    refine G_iadd h dL_law_784 rfl ?_
    refine G_sld h hLX v1 dL_law_785 rfl ?_
    refine G_aload_n h dL_law_786 (i := 0) rfl rfl rfl ?_
    refine G_iload_n h dL_law_787 (i := 3) rfl rfl rfl ?_
    refine G_iconst h dL_law_788 (v := 2) (by decide) rfl ?_
    refine G_iadd h dL_law_789 rfl ?_
    refine G_sld h hLX v2 dL_law_790 rfl ?_
    refine lc_100 h (ok_X9_may hE _ hm e2) dL_law_791 hm (as := [.int (xs (ix (nI i + 1))), .int (xs (ix (nI i + 2)))]) rfl rfl rfl (Nat.le_of_ble_eq_true rfl) ?_
    refine G_icmp_eq h dL_law_794 (tgt := 1279) (by decide) rfl (fun _ => ?_) (fun c => absurd rfl c)
    exact hT h5 M2 hI2
  by_cases c21 : v = 21
  · refine G_tsIn h dL_law_32 c21 (v := 21) (j := 21) (by decide) (by decide) rfl (tgt := 799) (by decide) ?_
    obtain ⟨r, M1, M2, e1, e2, hI2⟩ := al21 (xs (ix (nI i + 1))) (xs (ix (nI i + 2))) (xs (ix (nI i + 3))) (xs (ix (nI i + 4)))
    refine G_aload_n h dL_law_799 (i := 1) rfl rfl rfl ?_
    refine G_aload_n h dL_law_800 (i := 0) rfl rfl rfl ?_
    refine G_iload_n h dL_law_801 (i := 3) rfl rfl rfl ?_
    refine G_iconst h dL_law_802 (v := 1) (by decide) rfl ?_
    refine G_iadd h dL_law_803 rfl ?_
    refine G_sld h hLX v1 dL_law_804 rfl ?_
    refine G_aload_n h dL_law_805 (i := 0) rfl rfl rfl ?_
    refine G_iload_n h dL_law_806 (i := 3) rfl rfl rfl ?_
    refine G_iconst h dL_law_807 (v := 2) (by decide) rfl ?_
    refine G_iadd h dL_law_808 rfl ?_
    refine G_sld h hLX v2 dL_law_809 rfl ?_
    refine G_aload_n h dL_law_810 (i := 0) rfl rfl rfl ?_
    refine G_iload_n h dL_law_811 (i := 3) rfl rfl rfl ?_
    refine G_iconst h dL_law_812 (v := 3) (by decide) rfl ?_
    refine G_iadd h dL_law_813 rfl ?_
    refine G_sld h hLX v3 dL_law_814 rfl ?_
    refine G_aload_n h dL_law_815 (i := 0) rfl rfl rfl ?_
    refine G_iload_n h dL_law_816 (i := 3) rfl rfl rfl ?_
    refine G_iconst h dL_law_817 (v := 4) (by decide) rfl ?_
    refine G_iadd h dL_law_818 rfl ?_
    refine G_sld h hLX v4 dL_law_819 rfl ?_
    refine lc_101 h (ok_X8_note hE _ hx e1) dL_law_820 hx (as := [.int (xs (ix (nI i + 1))), .int (xs (ix (nI i + 2))), .int (xs (ix (nI i + 3))), .int (xs (ix (nI i + 4)))]) rfl rfl rfl (Nat.le_of_ble_eq_true rfl) ?_
    refine G_aload_n h dL_law_823 (i := 2) rfl rfl rfl ?_
    refine G_aload_n h dL_law_824 (i := 0) rfl rfl rfl ?_
    refine G_iload_n h dL_law_825 (i := 3) rfl rfl rfl ?_
    refine G_iconst h dL_law_826 (v := 1) (by decide) rfl ?_
    refine G_iadd h dL_law_827 rfl ?_
    refine G_sld h hLX v1 dL_law_828 rfl ?_
    refine G_aload_n h dL_law_829 (i := 0) rfl rfl rfl ?_
    refine G_iload_n h dL_law_830 (i := 3) rfl rfl rfl ?_
    refine G_iconst h dL_law_831 (v := 2) (by decide) rfl ?_
    refine G_iadd h dL_law_832 rfl ?_
    refine G_sld h hLX v2 dL_law_833 rfl ?_
    refine G_aload_n h dL_law_834 (i := 0) rfl rfl rfl ?_
    refine G_iload_n h dL_law_835 (i := 3) rfl rfl rfl ?_
    refine G_iconst h dL_law_836 (v := 3) (by decide) rfl ?_
    refine G_iadd h dL_law_837 rfl ?_
    refine G_sld h hLX v3 dL_law_838 rfl ?_
    refine G_aload_n h dL_law_839 (i := 0) rfl rfl rfl ?_
    refine G_iload_n h dL_law_840 (i := 3) rfl rfl rfl ?_
    refine G_iconst h dL_law_841 (v := 4) (by decide) rfl ?_
    refine G_iadd h dL_law_842 rfl ?_
    refine G_sld h hLX v4 dL_law_843 rfl ?_
    refine lc_105 h (ok_X9_note hE _ hm e2) dL_law_844 hm (as := [.int (xs (ix (nI i + 1))), .int (xs (ix (nI i + 2))), .int (xs (ix (nI i + 3))), .int (xs (ix (nI i + 4)))]) rfl rfl rfl (Nat.le_of_ble_eq_true rfl) ?_
    refine G_icmp_eq h dL_law_847 (tgt := 1279) (by decide) rfl (fun _ => ?_) (fun c => absurd rfl c)
    exact hT h5 M2 hI2
  by_cases c22 : v = 22
  · refine G_tsIn h dL_law_32 c22 (v := 22) (j := 22) (by decide) (by decide) rfl (tgt := 852) (by decide) ?_
    obtain ⟨r, M1, M2, e1, e2, hI2⟩ := al22 (xs (ix (nI i + 1))) (xs (ix (nI i + 2))) (xs (ix (nI i + 3))) (xs (ix (nI i + 4)))
    refine G_aload_n h dL_law_852 (i := 1) rfl rfl rfl ?_
    refine G_aload_n h dL_law_853 (i := 0) rfl rfl rfl ?_
    refine G_iload_n h dL_law_854 (i := 3) rfl rfl rfl ?_
    refine G_iconst h dL_law_855 (v := 1) (by decide) rfl ?_
    refine G_iadd h dL_law_856 rfl ?_
    refine G_sld h hLX v1 dL_law_857 rfl ?_
    refine G_aload_n h dL_law_858 (i := 0) rfl rfl rfl ?_
    refine G_iload_n h dL_law_859 (i := 3) rfl rfl rfl ?_
    refine G_iconst h dL_law_860 (v := 2) (by decide) rfl ?_
    refine G_iadd h dL_law_861 rfl ?_
    refine G_sld h hLX v2 dL_law_862 rfl ?_
    refine G_aload_n h dL_law_863 (i := 0) rfl rfl rfl ?_
    refine G_iload_n h dL_law_864 (i := 3) rfl rfl rfl ?_
    refine G_iconst h dL_law_865 (v := 3) (by decide) rfl ?_
    refine G_iadd h dL_law_866 rfl ?_
    refine G_sld h hLX v3 dL_law_867 rfl ?_
    refine G_aload_n h dL_law_868 (i := 0) rfl rfl rfl ?_
    refine G_iload_n h dL_law_869 (i := 3) rfl rfl rfl ?_
    refine G_iconst h dL_law_870 (v := 4) (by decide) rfl ?_
    refine G_iadd h dL_law_871 rfl ?_
    refine G_sld h hLX v4 dL_law_872 rfl ?_
    refine lc_106 h (ok_X8_mark hE _ hx e1) dL_law_873 hx (as := [.int (xs (ix (nI i + 1))), .int (xs (ix (nI i + 2))), .int (xs (ix (nI i + 3))), .int (xs (ix (nI i + 4)))]) rfl rfl rfl (Nat.le_of_ble_eq_true rfl) ?_
    refine G_aload_n h dL_law_876 (i := 2) rfl rfl rfl ?_
    refine G_aload_n h dL_law_877 (i := 0) rfl rfl rfl ?_
    refine G_iload_n h dL_law_878 (i := 3) rfl rfl rfl ?_
    refine G_iconst h dL_law_879 (v := 1) (by decide) rfl ?_
    refine G_iadd h dL_law_880 rfl ?_
    refine G_sld h hLX v1 dL_law_881 rfl ?_
    refine G_aload_n h dL_law_882 (i := 0) rfl rfl rfl ?_
    refine G_iload_n h dL_law_883 (i := 3) rfl rfl rfl ?_
    refine G_iconst h dL_law_884 (v := 2) (by decide) rfl ?_
    refine G_iadd h dL_law_885 rfl ?_
    refine G_sld h hLX v2 dL_law_886 rfl ?_
    refine G_aload_n h dL_law_887 (i := 0) rfl rfl rfl ?_
    refine G_iload_n h dL_law_888 (i := 3) rfl rfl rfl ?_
    refine G_iconst h dL_law_889 (v := 3) (by decide) rfl ?_
    refine G_iadd h dL_law_890 rfl ?_
    refine G_sld h hLX v3 dL_law_891 rfl ?_
    refine G_aload_n h dL_law_892 (i := 0) rfl rfl rfl ?_
    refine G_iload_n h dL_law_893 (i := 3) rfl rfl rfl ?_
    refine G_iconst h dL_law_894 (v := 4) (by decide) rfl ?_
    refine G_iadd h dL_law_895 rfl ?_
    refine G_sld h hLX v4 dL_law_896 rfl ?_
    refine lc_109 h (ok_X9_mark hE _ hm e2) dL_law_897 hm (as := [.int (xs (ix (nI i + 1))), .int (xs (ix (nI i + 2))), .int (xs (ix (nI i + 3))), .int (xs (ix (nI i + 4)))]) rfl rfl rfl (Nat.le_of_ble_eq_true rfl) ?_
    refine G_icmp_eq h dL_law_900 (tgt := 1279) (by decide) rfl (fun _ => ?_) (fun c => absurd rfl c)
    exact hT h5 M2 hI2
  by_cases c23 : v = 23
  · refine G_tsIn h dL_law_32 c23 (v := 23) (j := 23) (by decide) (by decide) rfl (tgt := 905) (by decide) ?_
    obtain ⟨r, M1, M2, e1, e2, hI2⟩ := al23 (xs (ix (nI i + 1)))
    refine G_aload_n h dL_law_905 (i := 1) rfl rfl rfl ?_
    refine G_aload_n h dL_law_906 (i := 0) rfl rfl rfl ?_
    refine G_iload_n h dL_law_907 (i := 3) rfl rfl rfl ?_
    refine G_iconst h dL_law_908 (v := 1) (by decide) rfl ?_
    refine G_iadd h dL_law_909 rfl ?_
    refine G_sld h hLX v1 dL_law_910 rfl ?_
    refine lc_110 h (ok_X8_forget hE _ hx e1) dL_law_911 hx (as := [.int (xs (ix (nI i + 1)))]) rfl rfl rfl (Nat.le_of_ble_eq_true rfl) ?_
    refine G_aload_n h dL_law_914 (i := 2) rfl rfl rfl ?_
    refine G_aload_n h dL_law_915 (i := 0) rfl rfl rfl ?_
    refine G_iload_n h dL_law_916 (i := 3) rfl rfl rfl ?_
    refine G_iconst h dL_law_917 (v := 1) (by decide) rfl ?_
    refine G_iadd h dL_law_918 rfl ?_
    refine G_sld h hLX v1 dL_law_919 rfl ?_
    refine lc_113 h (ok_X9_forget hE _ hm e2) dL_law_920 hm (as := [.int (xs (ix (nI i + 1)))]) rfl rfl rfl (Nat.le_of_ble_eq_true rfl) ?_
    refine G_icmp_eq h dL_law_923 (tgt := 1279) (by decide) rfl (fun _ => ?_) (fun c => absurd rfl c)
    exact hT h5 M2 hI2
  by_cases c24 : v = 24
  · refine G_tsIn h dL_law_32 c24 (v := 24) (j := 24) (by decide) (by decide) rfl (tgt := 928) (by decide) ?_
    obtain ⟨r, M1, M2, e1, e2, hI2⟩ := al24 (xs (ix (nI i + 1)))
    refine G_aload_n h dL_law_928 (i := 1) rfl rfl rfl ?_
    refine G_aload_n h dL_law_929 (i := 0) rfl rfl rfl ?_
    refine G_iload_n h dL_law_930 (i := 3) rfl rfl rfl ?_
    refine G_iconst h dL_law_931 (v := 1) (by decide) rfl ?_
    refine G_iadd h dL_law_932 rfl ?_
    refine G_sld h hLX v1 dL_law_933 rfl ?_
    refine lc_114 h (ok_X8_is hE _ hx e1) dL_law_934 hx (as := [.int (xs (ix (nI i + 1)))]) rfl rfl rfl (Nat.le_of_ble_eq_true rfl) ?_
    refine G_aload_n h dL_law_937 (i := 2) rfl rfl rfl ?_
    refine G_aload_n h dL_law_938 (i := 0) rfl rfl rfl ?_
    refine G_iload_n h dL_law_939 (i := 3) rfl rfl rfl ?_
    refine G_iconst h dL_law_940 (v := 1) (by decide) rfl ?_
    refine G_iadd h dL_law_941 rfl ?_
    refine G_sld h hLX v1 dL_law_942 rfl ?_
    refine lc_117 h (ok_X9_is hE _ hm e2) dL_law_943 hm (as := [.int (xs (ix (nI i + 1)))]) rfl rfl rfl (Nat.le_of_ble_eq_true rfl) ?_
    refine G_icmp_eq h dL_law_946 (tgt := 1279) (by decide) rfl (fun _ => ?_) (fun c => absurd rfl c)
    exact hT h5 M2 hI2
  by_cases c25 : v = 25
  · refine G_tsIn h dL_law_32 c25 (v := 25) (j := 25) (by decide) (by decide) rfl (tgt := 951) (by decide) ?_
    obtain ⟨r, M1, M2, e1, e2, hI2⟩ := al25 (xs (ix (nI i + 1)))
    refine G_aload_n h dL_law_951 (i := 1) rfl rfl rfl ?_
    refine G_aload_n h dL_law_952 (i := 0) rfl rfl rfl ?_
    refine G_iload_n h dL_law_953 (i := 3) rfl rfl rfl ?_
    refine G_iconst h dL_law_954 (v := 1) (by decide) rfl ?_
    refine G_iadd h dL_law_955 rfl ?_
    refine G_sld h hLX v1 dL_law_956 rfl ?_
    refine lc_118 h (ok_X8_look hE _ hx e1) dL_law_957 hx (as := [.int (xs (ix (nI i + 1)))]) rfl rfl rfl (Nat.le_of_ble_eq_true rfl) ?_
    refine G_aload_n h dL_law_960 (i := 2) rfl rfl rfl ?_
    refine G_aload_n h dL_law_961 (i := 0) rfl rfl rfl ?_
    refine G_iload_n h dL_law_962 (i := 3) rfl rfl rfl ?_
    refine G_iconst h dL_law_963 (v := 1) (by decide) rfl ?_
    refine G_iadd h dL_law_964 rfl ?_
    refine G_sld h hLX v1 dL_law_965 rfl ?_
    refine lc_121 h (ok_X9_look hE _ hm e2) dL_law_966 hm (as := [.int (xs (ix (nI i + 1)))]) rfl rfl rfl (Nat.le_of_ble_eq_true rfl) ?_
    refine G_icmp_eq h dL_law_969 (tgt := 1279) (by decide) rfl (fun _ => ?_) (fun c => absurd rfl c)
    exact hT h5 M2 hI2
  by_cases c26 : v = 26
  · refine G_tsIn h dL_law_32 c26 (v := 26) (j := 26) (by decide) (by decide) rfl (tgt := 974) (by decide) ?_
    obtain ⟨r, M1, M2, e1, e2, hI2⟩ := al26 (xs (ix (nI i + 1)))
    refine G_aload_n h dL_law_974 (i := 1) rfl rfl rfl ?_
    refine G_aload_n h dL_law_975 (i := 0) rfl rfl rfl ?_
    refine G_iload_n h dL_law_976 (i := 3) rfl rfl rfl ?_
    refine G_iconst h dL_law_977 (v := 1) (by decide) rfl ?_
    refine G_iadd h dL_law_978 rfl ?_
    refine G_sld h hLX v1 dL_law_979 rfl ?_
    refine lc_122 h (ok_X8_kinds hE _ hx e1) dL_law_980 hx (as := [.int (xs (ix (nI i + 1)))]) rfl rfl rfl (Nat.le_of_ble_eq_true rfl) ?_
    refine G_aload_n h dL_law_983 (i := 2) rfl rfl rfl ?_
    refine G_aload_n h dL_law_984 (i := 0) rfl rfl rfl ?_
    refine G_iload_n h dL_law_985 (i := 3) rfl rfl rfl ?_
    refine G_iconst h dL_law_986 (v := 1) (by decide) rfl ?_
    refine G_iadd h dL_law_987 rfl ?_
    refine G_sld h hLX v1 dL_law_988 rfl ?_
    refine lc_125 h (ok_X9_kinds hE _ hm e2) dL_law_989 hm (as := [.int (xs (ix (nI i + 1)))]) rfl rfl rfl (Nat.le_of_ble_eq_true rfl) ?_
    refine G_icmp_eq h dL_law_992 (tgt := 1279) (by decide) rfl (fun _ => ?_) (fun c => absurd rfl c)
    exact hT h5 M2 hI2
  by_cases c27 : v = 27
  · refine G_tsIn h dL_law_32 c27 (v := 27) (j := 27) (by decide) (by decide) rfl (tgt := 997) (by decide) ?_
    obtain ⟨r, M1, M2, e1, e2, hI2⟩ := al27 (xs (ix (nI i + 1)))
    refine G_aload_n h dL_law_997 (i := 1) rfl rfl rfl ?_
    refine G_aload_n h dL_law_998 (i := 0) rfl rfl rfl ?_
    refine G_iload_n h dL_law_999 (i := 3) rfl rfl rfl ?_
    refine G_iconst h dL_law_1000 (v := 1) (by decide) rfl ?_
    refine G_iadd h dL_law_1001 rfl ?_
    refine G_sld h hLX v1 dL_law_1002 rfl ?_
    refine lc_126 h (ok_X8_ask hE _ hx e1) dL_law_1003 hx (as := [.int (xs (ix (nI i + 1)))]) rfl rfl rfl (Nat.le_of_ble_eq_true rfl) ?_
    refine G_aload_n h dL_law_1006 (i := 2) rfl rfl rfl ?_
    refine G_aload_n h dL_law_1007 (i := 0) rfl rfl rfl ?_
    refine G_iload_n h dL_law_1008 (i := 3) rfl rfl rfl ?_
    refine G_iconst h dL_law_1009 (v := 1) (by decide) rfl ?_
    refine G_iadd h dL_law_1010 rfl ?_
    refine G_sld h hLX v1 dL_law_1011 rfl ?_
    refine lc_129 h (ok_X9_ask hE _ hm e2) dL_law_1012 hm (as := [.int (xs (ix (nI i + 1)))]) rfl rfl rfl (Nat.le_of_ble_eq_true rfl) ?_
    refine G_icmp_eq h dL_law_1015 (tgt := 1279) (by decide) rfl (fun _ => ?_) (fun c => absurd rfl c)
    exact hT h5 M2 hI2
  by_cases c28 : v = 28
  · refine G_tsIn h dL_law_32 c28 (v := 28) (j := 28) (by decide) (by decide) rfl (tgt := 1020) (by decide) ?_
    obtain ⟨r, M1, M2, e1, e2, hI2⟩ := al28 (xs (ix (nI i + 1))) (xs (ix (nI i + 2))) (xs (ix (nI i + 3))) (xs (ix (nI i + 4)))
    refine G_aload_n h dL_law_1020 (i := 1) rfl rfl rfl ?_
    refine G_aload_n h dL_law_1021 (i := 0) rfl rfl rfl ?_
    refine G_iload_n h dL_law_1022 (i := 3) rfl rfl rfl ?_
    refine G_iconst h dL_law_1023 (v := 1) (by decide) rfl ?_
    refine G_iadd h dL_law_1024 rfl ?_
    refine G_sld h hLX v1 dL_law_1025 rfl ?_
    refine G_aload_n h dL_law_1026 (i := 0) rfl rfl rfl ?_
    refine G_iload_n h dL_law_1027 (i := 3) rfl rfl rfl ?_
    refine G_iconst h dL_law_1028 (v := 2) (by decide) rfl ?_
    refine G_iadd h dL_law_1029 rfl ?_
    refine G_sld h hLX v2 dL_law_1030 rfl ?_
    refine G_aload_n h dL_law_1031 (i := 0) rfl rfl rfl ?_
    refine G_iload_n h dL_law_1032 (i := 3) rfl rfl rfl ?_
    refine G_iconst h dL_law_1033 (v := 3) (by decide) rfl ?_
    refine G_iadd h dL_law_1034 rfl ?_
    refine G_sld h hLX v3 dL_law_1035 rfl ?_
    refine G_aload_n h dL_law_1036 (i := 0) rfl rfl rfl ?_
    refine G_iload_n h dL_law_1037 (i := 3) rfl rfl rfl ?_
    refine G_iconst h dL_law_1038 (v := 4) (by decide) rfl ?_
    refine G_iadd h dL_law_1039 rfl ?_
    refine G_sld h hLX v4 dL_law_1040 rfl ?_
    refine lc_130 h (ok_X8_hosts hE _ hx e1) dL_law_1041 hx (as := [.int (xs (ix (nI i + 1))), .int (xs (ix (nI i + 2))), .int (xs (ix (nI i + 3))), .int (xs (ix (nI i + 4)))]) rfl rfl rfl (Nat.le_of_ble_eq_true rfl) ?_
    refine G_aload_n h dL_law_1044 (i := 2) rfl rfl rfl ?_
    refine G_aload_n h dL_law_1045 (i := 0) rfl rfl rfl ?_
    refine G_iload_n h dL_law_1046 (i := 3) rfl rfl rfl ?_
    refine G_iconst h dL_law_1047 (v := 1) (by decide) rfl ?_
    refine G_iadd h dL_law_1048 rfl ?_
    refine G_sld h hLX v1 dL_law_1049 rfl ?_
    refine G_aload_n h dL_law_1050 (i := 0) rfl rfl rfl ?_
    refine G_iload_n h dL_law_1051 (i := 3) rfl rfl rfl ?_
    refine G_iconst h dL_law_1052 (v := 2) (by decide) rfl ?_
    refine G_iadd h dL_law_1053 rfl ?_
    refine G_sld h hLX v2 dL_law_1054 rfl ?_
    refine G_aload_n h dL_law_1055 (i := 0) rfl rfl rfl ?_
    refine G_iload_n h dL_law_1056 (i := 3) rfl rfl rfl ?_
    refine G_iconst h dL_law_1057 (v := 3) (by decide) rfl ?_
    refine G_iadd h dL_law_1058 rfl ?_
    refine G_sld h hLX v3 dL_law_1059 rfl ?_
    refine G_aload_n h dL_law_1060 (i := 0) rfl rfl rfl ?_
    refine G_iload_n h dL_law_1061 (i := 3) rfl rfl rfl ?_
    refine G_iconst h dL_law_1062 (v := 4) (by decide) rfl ?_
    refine G_iadd h dL_law_1063 rfl ?_
    refine G_sld h hLX v4 dL_law_1064 rfl ?_
    refine lc_133 h (ok_X9_hosts hE _ hm e2) dL_law_1065 hm (as := [.int (xs (ix (nI i + 1))), .int (xs (ix (nI i + 2))), .int (xs (ix (nI i + 3))), .int (xs (ix (nI i + 4)))]) rfl rfl rfl (Nat.le_of_ble_eq_true rfl) ?_
    refine G_icmp_eq h dL_law_1068 (tgt := 1279) (by decide) rfl (fun _ => ?_) (fun c => absurd rfl c)
    exact hT h5 M2 hI2
  by_cases c29 : v = 29
  · refine G_tsIn h dL_law_32 c29 (v := 29) (j := 29) (by decide) (by decide) rfl (tgt := 1073) (by decide) ?_
    obtain ⟨r, M1, M2, e1, e2, hI2⟩ := al29 (xs (ix (nI i + 1))) (xs (ix (nI i + 2))) (xs (ix (nI i + 3)))
    refine G_aload_n h dL_law_1073 (i := 1) rfl rfl rfl ?_
    refine G_aload_n h dL_law_1074 (i := 0) rfl rfl rfl ?_
    refine G_iload_n h dL_law_1075 (i := 3) rfl rfl rfl ?_
    refine G_iconst h dL_law_1076 (v := 1) (by decide) rfl ?_
    refine G_iadd h dL_law_1077 rfl ?_
    refine G_sld h hLX v1 dL_law_1078 rfl ?_
    refine G_aload_n h dL_law_1079 (i := 0) rfl rfl rfl ?_
    refine G_iload_n h dL_law_1080 (i := 3) rfl rfl rfl ?_
    refine G_iconst h dL_law_1081 (v := 2) (by decide) rfl ?_
    refine G_iadd h dL_law_1082 rfl ?_
    refine G_sld h hLX v2 dL_law_1083 rfl ?_
    refine G_aload_n h dL_law_1084 (i := 0) rfl rfl rfl ?_
    refine G_iload_n h dL_law_1085 (i := 3) rfl rfl rfl ?_
    refine G_iconst h dL_law_1086 (v := 3) (by decide) rfl ?_
    refine G_iadd h dL_law_1087 rfl ?_
    refine G_sld h hLX v3 dL_law_1088 rfl ?_
    refine lc_134 h (ok_X8_slips hE _ hx e1) dL_law_1089 hx (as := [.int (xs (ix (nI i + 1))), .int (xs (ix (nI i + 2))), .int (xs (ix (nI i + 3)))]) rfl rfl rfl (Nat.le_of_ble_eq_true rfl) ?_
    refine G_aload_n h dL_law_1092 (i := 2) rfl rfl rfl ?_
    refine G_aload_n h dL_law_1093 (i := 0) rfl rfl rfl ?_
    refine G_iload_n h dL_law_1094 (i := 3) rfl rfl rfl ?_
    refine G_iconst h dL_law_1095 (v := 1) (by decide) rfl ?_
    refine G_iadd h dL_law_1096 rfl ?_
    refine G_sld h hLX v1 dL_law_1097 rfl ?_
    refine G_aload_n h dL_law_1098 (i := 0) rfl rfl rfl ?_
    refine G_iload_n h dL_law_1099 (i := 3) rfl rfl rfl ?_
    refine G_iconst h dL_law_1100 (v := 2) (by decide) rfl ?_
    refine G_iadd h dL_law_1101 rfl ?_
    refine G_sld h hLX v2 dL_law_1102 rfl ?_
    refine G_aload_n h dL_law_1103 (i := 0) rfl rfl rfl ?_
    refine G_iload_n h dL_law_1104 (i := 3) rfl rfl rfl ?_
    refine G_iconst h dL_law_1105 (v := 3) (by decide) rfl ?_
    refine G_iadd h dL_law_1106 rfl ?_
    refine G_sld h hLX v3 dL_law_1107 rfl ?_
    refine lc_137 h (ok_X9_slips hE _ hm e2) dL_law_1108 hm (as := [.int (xs (ix (nI i + 1))), .int (xs (ix (nI i + 2))), .int (xs (ix (nI i + 3)))]) rfl rfl rfl (Nat.le_of_ble_eq_true rfl) ?_
    refine G_icmp_eq h dL_law_1111 (tgt := 1279) (by decide) rfl (fun _ => ?_) (fun c => absurd rfl c)
    exact hT h5 M2 hI2
  by_cases c30 : v = 30
  · refine G_tsIn h dL_law_32 c30 (v := 30) (j := 30) (by decide) (by decide) rfl (tgt := 1116) (by decide) ?_
    obtain ⟨r, M1, M2, e1, e2, hI2⟩ := al30 (xs (ix (nI i + 1))) (xs (ix (nI i + 2)))
    refine G_aload_n h dL_law_1116 (i := 1) rfl rfl rfl ?_
    refine G_aload_n h dL_law_1117 (i := 0) rfl rfl rfl ?_
    refine G_iload_n h dL_law_1118 (i := 3) rfl rfl rfl ?_
    refine G_iconst h dL_law_1119 (v := 1) (by decide) rfl ?_
    refine G_iadd h dL_law_1120 rfl ?_
    refine G_sld h hLX v1 dL_law_1121 rfl ?_
    refine G_aload_n h dL_law_1122 (i := 0) rfl rfl rfl ?_
    refine G_iload_n h dL_law_1123 (i := 3) rfl rfl rfl ?_
    refine G_iconst h dL_law_1124 (v := 2) (by decide) rfl ?_
    refine G_iadd h dL_law_1125 rfl ?_
    refine G_sld h hLX v2 dL_law_1126 rfl ?_
    refine lc_138 h (ok_X8_evenings hE _ hx e1) dL_law_1127 hx (as := [.int (xs (ix (nI i + 1))), .int (xs (ix (nI i + 2)))]) rfl rfl rfl (Nat.le_of_ble_eq_true rfl) ?_
    refine G_aload_n h dL_law_1130 (i := 2) rfl rfl rfl ?_
    refine G_aload_n h dL_law_1131 (i := 0) rfl rfl rfl ?_
    refine G_iload_n h dL_law_1132 (i := 3) rfl rfl rfl ?_
    refine G_iconst h dL_law_1133 (v := 1) (by decide) rfl ?_
    refine G_iadd h dL_law_1134 rfl ?_
    refine G_sld h hLX v1 dL_law_1135 rfl ?_
    refine G_aload_n h dL_law_1136 (i := 0) rfl rfl rfl ?_
    refine G_iload_n h dL_law_1137 (i := 3) rfl rfl rfl ?_
    refine G_iconst h dL_law_1138 (v := 2) (by decide) rfl ?_
    refine G_iadd h dL_law_1139 rfl ?_
    refine G_sld h hLX v2 dL_law_1140 rfl ?_
    refine lc_141 h (ok_X9_evenings hE _ hm e2) dL_law_1141 hm (as := [.int (xs (ix (nI i + 1))), .int (xs (ix (nI i + 2)))]) rfl rfl rfl (Nat.le_of_ble_eq_true rfl) ?_
    refine G_icmp_eq h dL_law_1144 (tgt := 1279) (by decide) rfl (fun _ => ?_) (fun c => absurd rfl c)
    exact hT h5 M2 hI2
  by_cases c31 : v = 31
  · refine G_tsIn h dL_law_32 c31 (v := 31) (j := 31) (by decide) (by decide) rfl (tgt := 1149) (by decide) ?_
    obtain ⟨r, M1, M2, e1, e2, hI2⟩ := al31 (xs (ix (nI i + 1)))
    refine G_aload_n h dL_law_1149 (i := 1) rfl rfl rfl ?_
    refine G_aload_n h dL_law_1150 (i := 0) rfl rfl rfl ?_
    refine G_iload_n h dL_law_1151 (i := 3) rfl rfl rfl ?_
    refine G_iconst h dL_law_1152 (v := 1) (by decide) rfl ?_
    refine G_iadd h dL_law_1153 rfl ?_
    refine G_sld h hLX v1 dL_law_1154 rfl ?_
    refine lc_142 h (ok_X8_part hE _ hx e1) dL_law_1155 hx (as := [.int (xs (ix (nI i + 1)))]) rfl rfl rfl (Nat.le_of_ble_eq_true rfl) ?_
    refine G_aload_n h dL_law_1158 (i := 2) rfl rfl rfl ?_
    refine G_aload_n h dL_law_1159 (i := 0) rfl rfl rfl ?_
    refine G_iload_n h dL_law_1160 (i := 3) rfl rfl rfl ?_
    refine G_iconst h dL_law_1161 (v := 1) (by decide) rfl ?_
    refine G_iadd h dL_law_1162 rfl ?_
    refine G_sld h hLX v1 dL_law_1163 rfl ?_
    refine lc_146 h (ok_X9_part hE _ hm e2) dL_law_1164 hm (as := [.int (xs (ix (nI i + 1)))]) rfl rfl rfl (Nat.le_of_ble_eq_true rfl) ?_
    refine G_lcmp h dL_law_1167 rfl ?_
    rw [lg_cmp_self]
    refine G_if_eq h dL_law_1168 (tgt := 1279) (by decide) rfl (fun _ => ?_) (fun c => absurd rfl c)
    exact hT h5 M2 hI2
  by_cases c32 : v = 32
  · refine G_tsIn h dL_law_32 c32 (v := 32) (j := 32) (by decide) (by decide) rfl (tgt := 1173) (by decide) ?_
    obtain ⟨r, M1, M2, e1, e2, hI2⟩ := al32 (xs (ix (nI i + 1)))
    refine G_aload_n h dL_law_1173 (i := 1) rfl rfl rfl ?_
    refine G_aload_n h dL_law_1174 (i := 0) rfl rfl rfl ?_
    refine G_iload_n h dL_law_1175 (i := 3) rfl rfl rfl ?_
    refine G_iconst h dL_law_1176 (v := 1) (by decide) rfl ?_
    refine G_iadd h dL_law_1177 rfl ?_
    refine G_sld h hLX v1 dL_law_1178 rfl ?_
    refine lc_147 h (ok_X8_image hE _ hx e1) dL_law_1179 hx (as := [.int (xs (ix (nI i + 1)))]) rfl rfl rfl (Nat.le_of_ble_eq_true rfl) ?_
    refine G_aload_n h dL_law_1182 (i := 2) rfl rfl rfl ?_
    refine G_aload_n h dL_law_1183 (i := 0) rfl rfl rfl ?_
    refine G_iload_n h dL_law_1184 (i := 3) rfl rfl rfl ?_
    refine G_iconst h dL_law_1185 (v := 1) (by decide) rfl ?_
    refine G_iadd h dL_law_1186 rfl ?_
    refine G_sld h hLX v1 dL_law_1187 rfl ?_
    refine lc_150 h (ok_X9_image hE _ hm e2) dL_law_1188 hm (as := [.int (xs (ix (nI i + 1)))]) rfl rfl rfl (Nat.le_of_ble_eq_true rfl) ?_
    refine G_icmp_eq h dL_law_1191 (tgt := 1279) (by decide) rfl (fun _ => ?_) (fun c => absurd rfl c)
    exact hT h5 M2 hI2
  by_cases c33 : v = 33
  · refine G_tsIn h dL_law_32 c33 (v := 33) (j := 33) (by decide) (by decide) rfl (tgt := 1196) (by decide) ?_
    obtain ⟨r, M1, M2, e1, e2, hI2⟩ := al33 (xs (ix (nI i + 1)))
    refine G_aload_n h dL_law_1196 (i := 1) rfl rfl rfl ?_
    refine G_aload_n h dL_law_1197 (i := 0) rfl rfl rfl ?_
    refine G_iload_n h dL_law_1198 (i := 3) rfl rfl rfl ?_
    refine G_iconst h dL_law_1199 (v := 1) (by decide) rfl ?_
    refine G_iadd h dL_law_1200 rfl ?_
    refine G_sld h hLX v1 dL_law_1201 rfl ?_
    refine lc_151 h (ok_X8_from hE _ hx e1) dL_law_1202 hx (as := [.int (xs (ix (nI i + 1)))]) rfl rfl rfl (Nat.le_of_ble_eq_true rfl) ?_
    refine G_aload_n h dL_law_1205 (i := 2) rfl rfl rfl ?_
    refine G_aload_n h dL_law_1206 (i := 0) rfl rfl rfl ?_
    refine G_iload_n h dL_law_1207 (i := 3) rfl rfl rfl ?_
    refine G_iconst h dL_law_1208 (v := 1) (by decide) rfl ?_
    refine G_iadd h dL_law_1209 rfl ?_
    refine G_sld h hLX v1 dL_law_1210 rfl ?_
    refine lc_154 h (ok_X9_from hE _ hm e2) dL_law_1211 hm (as := [.int (xs (ix (nI i + 1)))]) rfl rfl rfl (Nat.le_of_ble_eq_true rfl) ?_
    refine G_icmp_eq h dL_law_1214 (tgt := 1279) (by decide) rfl (fun _ => ?_) (fun c => absurd rfl c)
    exact hT h5 M2 hI2
  by_cases c34 : v = 34
  · refine G_tsIn h dL_law_32 c34 (v := 34) (j := 34) (by decide) (by decide) rfl (tgt := 1219) (by decide) ?_
    obtain ⟨r, M1, M2, e1, e2, hI2⟩ := al34 (xs (ix (nI i + 1)))
    refine G_aload_n h dL_law_1219 (i := 1) rfl rfl rfl ?_
    refine G_aload_n h dL_law_1220 (i := 0) rfl rfl rfl ?_
    refine G_iload_n h dL_law_1221 (i := 3) rfl rfl rfl ?_
    refine G_iconst h dL_law_1222 (v := 1) (by decide) rfl ?_
    refine G_iadd h dL_law_1223 rfl ?_
    refine G_sld h hLX v1 dL_law_1224 rfl ?_
    refine lc_155 h (ok_X8_status hE _ hx e1) dL_law_1225 hx (as := [.int (xs (ix (nI i + 1)))]) rfl rfl rfl (Nat.le_of_ble_eq_true rfl) ?_
    refine G_aload_n h dL_law_1228 (i := 2) rfl rfl rfl ?_
    refine G_aload_n h dL_law_1229 (i := 0) rfl rfl rfl ?_
    refine G_iload_n h dL_law_1230 (i := 3) rfl rfl rfl ?_
    refine G_iconst h dL_law_1231 (v := 1) (by decide) rfl ?_
    refine G_iadd h dL_law_1232 rfl ?_
    refine G_sld h hLX v1 dL_law_1233 rfl ?_
    refine lc_158 h (ok_X9_status hE _ hm e2) dL_law_1234 hm (as := [.int (xs (ix (nI i + 1)))]) rfl rfl rfl (Nat.le_of_ble_eq_true rfl) ?_
    refine G_icmp_eq h dL_law_1237 (tgt := 1279) (by decide) rfl (fun _ => ?_) (fun c => absurd rfl c)
    exact hT h5 M2 hI2
  by_cases c35 : v = 35
  · refine G_tsIn h dL_law_32 c35 (v := 35) (j := 35) (by decide) (by decide) rfl (tgt := 1242) (by decide) ?_
    obtain ⟨r, M1, M2, e1, e2, hI2⟩ := al35 (xs (ix (nI i + 1)))
    refine G_aload_n h dL_law_1242 (i := 1) rfl rfl rfl ?_
    refine G_aload_n h dL_law_1243 (i := 0) rfl rfl rfl ?_
    refine G_iload_n h dL_law_1244 (i := 3) rfl rfl rfl ?_
    refine G_iconst h dL_law_1245 (v := 1) (by decide) rfl ?_
    refine G_iadd h dL_law_1246 rfl ?_
    refine G_sld h hLX v1 dL_law_1247 rfl ?_
    refine lc_159 h (ok_X8_count hE _ hx e1) dL_law_1248 hx (as := [.int (xs (ix (nI i + 1)))]) rfl rfl rfl (Nat.le_of_ble_eq_true rfl) ?_
    refine G_aload_n h dL_law_1251 (i := 2) rfl rfl rfl ?_
    refine G_aload_n h dL_law_1252 (i := 0) rfl rfl rfl ?_
    refine G_iload_n h dL_law_1253 (i := 3) rfl rfl rfl ?_
    refine G_iconst h dL_law_1254 (v := 1) (by decide) rfl ?_
    refine G_iadd h dL_law_1255 rfl ?_
    refine G_sld h hLX v1 dL_law_1256 rfl ?_
    refine lc_162 h (ok_X9_count hE _ hm e2) dL_law_1257 hm (as := [.int (xs (ix (nI i + 1)))]) rfl rfl rfl (Nat.le_of_ble_eq_true rfl) ?_
    refine G_icmp_eq h dL_law_1260 (tgt := 1279) (by decide) rfl (fun _ => ?_) (fun c => absurd rfl c)
    exact hT h5 M2 hI2
  by_cases c36 : v = 36
  · refine G_tsIn h dL_law_32 c36 (v := 36) (j := 36) (by decide) (by decide) rfl (tgt := 1265) (by decide) ?_
    obtain ⟨r, M1, M2, e1, e2, hI2⟩ := al36
    refine G_aload_n h dL_law_1265 (i := 1) rfl rfl rfl ?_
    obtain ⟨e1a, e1b⟩ := e1
    subst e1b
    refine lc_163 h (ok_X8_digest hE _ hx e1a) dL_law_1266 hx (as := []) rfl rfl rfl (Nat.le_of_ble_eq_true rfl) ?_
    refine G_aload_n h dL_law_1269 (i := 2) rfl rfl rfl ?_
    refine lc_167 h (ok_X9_digest hE _ hm e2) dL_law_1270 hm (as := []) rfl rfl rfl (Nat.le_of_ble_eq_true rfl) ?_
    refine G_lcmp h dL_law_1273 rfl ?_
    rw [lg_cmp_self]
    refine G_if_eq h dL_law_1274 (tgt := 1279) (by decide) rfl (fun _ => ?_) (fun c => absurd rfl c)
    exact hT h5 M2 hI2
  have n0 := ne_lit c0 (n := 0) (by decide)
  have n1 := ne_lit c1 (n := 1) (by decide)
  have n2 := ne_lit c2 (n := 2) (by decide)
  have n3 := ne_lit c3 (n := 3) (by decide)
  have n4 := ne_lit c4 (n := 4) (by decide)
  have n5 := ne_lit c5 (n := 5) (by decide)
  have n6 := ne_lit c6 (n := 6) (by decide)
  have n7 := ne_lit c7 (n := 7) (by decide)
  have n8 := ne_lit c8 (n := 8) (by decide)
  have n9 := ne_lit c9 (n := 9) (by decide)
  have n10 := ne_lit c10 (n := 10) (by decide)
  have n11 := ne_lit c11 (n := 11) (by decide)
  have n12 := ne_lit c12 (n := 12) (by decide)
  have n13 := ne_lit c13 (n := 13) (by decide)
  have n14 := ne_lit c14 (n := 14) (by decide)
  have n15 := ne_lit c15 (n := 15) (by decide)
  have n16 := ne_lit c16 (n := 16) (by decide)
  have n17 := ne_lit c17 (n := 17) (by decide)
  have n18 := ne_lit c18 (n := 18) (by decide)
  have n19 := ne_lit c19 (n := 19) (by decide)
  have n20 := ne_lit c20 (n := 20) (by decide)
  have n21 := ne_lit c21 (n := 21) (by decide)
  have n22 := ne_lit c22 (n := 22) (by decide)
  have n23 := ne_lit c23 (n := 23) (by decide)
  have n24 := ne_lit c24 (n := 24) (by decide)
  have n25 := ne_lit c25 (n := 25) (by decide)
  have n26 := ne_lit c26 (n := 26) (by decide)
  have n27 := ne_lit c27 (n := 27) (by decide)
  have n28 := ne_lit c28 (n := 28) (by decide)
  have n29 := ne_lit c29 (n := 29) (by decide)
  have n30 := ne_lit c30 (n := 30) (by decide)
  have n31 := ne_lit c31 (n := 31) (by decide)
  have n32 := ne_lit c32 (n := 32) (by decide)
  have n33 := ne_lit c33 (n := 33) (by decide)
  have n34 := ne_lit c34 (n := 34) (by decide)
  have n35 := ne_lit c35 (n := 35) (by decide)
  have n36 := ne_lit c36 (n := 36) (by decide)
  refine G_tsOut h dL_law_32 (by omega) (tgt := 1279) (by decide) ?_
  exact hT h5 M hI
end Law
