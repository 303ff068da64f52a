/-! constructors' contracts -/
section Ctors
theorem okK {E : Env1} {q k a c : Nat} (h : eR E q k = some a) (hk : isK E a c) : okR E q (k, c, none) := by
  have e := rr_of h
  exact ⟨by rw [e]; exact h, by rw [e]; exact hk.1, by rw [e]; exact hk.2, fun n hn => by cases hn⟩
theorem okA {E : Env1} {q k a c n : Nat} (h : eR E q k = some a) (hk : isA E a c n) : okR E q (k, c, some n) := by
  have e := rr_of h
  exact ⟨by rw [e]; exact h, by rw [e]; exact hk.1, by rw [e]; exact hk.2.1, fun n' hn => by rw [e]; cases hn; exact hk.2.2⟩
def St0 (E : Env1) (M : Mem) (s : Nat) : Prop := (∀ j, j < 8 → mi M (rr E s 0) j = 0) ∧ (∀ j, j < 6 → mi M (rr E s 1) j = 0) ∧ (∀ j, j < 6 → mi M (rr E s 2) j = -1) ∧ mi M s 3 = 0 ∧ mi M s 4 = 0
def Rw0 (_ : Env1) (M : Mem) (r : Nat) : Prop := mi M r 0 = 0
def Ho0 (E : Env1) (M : Mem) (h : Nat) : Prop := mi M h 0 = 0 ∧ mi M h 5 = 0 ∧ St0 E M (rr E h 3) ∧ Rw0 E M (rr E h 6) ∧ Rw0 E M (rr E h 7) ∧ Rw0 E M (rr E h 8)
def Tr0 (_ : Env1) (_ : Mem) (_ : Nat) : Prop := True
def Sm0 (E : Env1) (M : Mem) (x : Nat) : Prop := Ho0 E M (rr E x 0) ∧ mi M (rr E x 3) 0 = 0 ∧ mi M (rr E x 3) 1 = 0 ∧ Rw0 E M (rr E x 4) ∧ ml M x 6 = 0 ∧ ml M x 7 = 1 ∧ mi M x 8 = 0 ∧ mi M x 9 = 0 ∧ mi M x 10 = 0
def Mo0 (E : Env1) (M : Mem) (m : Nat) : Prop := (∀ j, j < 3 → mi M (rr E m 0) j = 0) ∧ mi M m 1 = 0 ∧ mi M m 2 = 0 ∧ mi M m 3 = 0 ∧ mi M m 4 = 0 ∧ mi M m 5 = 0 ∧ mi M m 6 = 0 ∧ mi M m 16 = 0 ∧ mi M m 21 = 0 ∧ (∀ j, j < 8 → mi M (rr E m 11) j = 0) ∧ ml M m 25 = 0 ∧ ml M m 26 = 1 ∧ mi M (rr E m 28) 0 = 0 ∧ mi M (rr E m 28) 1 = 0
theorem rr_keep {E1 E2 : Env1} {M1 M2 : Mem} {p q : Nat} (h : Keep E1 M1 E2 M2 p) (hq : q ∈ eL E1) (hne : q ≠ p) (k : Nat) : rr E2 q k = rr E1 q k := by
  unfold rr
  rw [((h q hq).2.2.2 hne).1 k]
theorem Rw0_k : ∀ (Ea : Env1) (Ma : Mem) (Eb : Env1) (Mb : Mem) (p x : Nat), WFt Ea → isK Ea x 3 → 20 ≤ eK Ea p → Keep Ea Ma Eb Mb p → Rw0 Ea Ma x → Rw0 Eb Mb x := by
  intro Ea Ma Eb Mb p x hW hx hp hk h
  have hne : x ≠ p := fun z => by rw [← z, hx.2] at hp; omega
  exact (((hk x hx.1).2.2.2 hne).2.2.1 0).trans h
theorem Rw6_k : ∀ (Ea : Env1) (Ma : Mem) (Eb : Env1) (Mb : Mem) (p x : Nat), WFt Ea → isK Ea x 6 → 20 ≤ eK Ea p → Keep Ea Ma Eb Mb p → Rw0 Ea Ma x → Rw0 Eb Mb x := by
  intro Ea Ma Eb Mb p x hW hx hp hk h
  have hne : x ≠ p := fun z => by rw [← z, hx.2] at hp; omega
  exact (((hk x hx.1).2.2.2 hne).2.2.1 0).trans h
theorem Tr0_k {c : Nat} : ∀ (Ea : Env1) (Ma : Mem) (Eb : Env1) (Mb : Mem) (p x : Nat), WFt Ea → isK Ea x c → 20 ≤ eK Ea p → Keep Ea Ma Eb Mb p → Tr0 Ea Ma x → Tr0 Eb Mb x := fun _ _ _ _ _ _ _ _ _ _ _ => trivial
theorem St0_k : ∀ (Ea : Env1) (Ma : Mem) (Eb : Env1) (Mb : Mem) (p x : Nat), WFt Ea → isK Ea x 4 → 20 ≤ eK Ea p → Keep Ea Ma Eb Mb p → St0 Ea Ma x → St0 Eb Mb x := by
  intro Ea Ma Eb Mb p x hW hx hp hk h
  have hne : x ≠ p := fun z => by rw [← z, hx.2] at hp; omega
  have ar : ∀ k n, fA Ea x k 9 n → rr Eb x k = rr Ea x k ∧ ∀ j, mi Mb (rr Ea x k) j = mi Ma (rr Ea x k) j := by
    intro k n hf
    have hne2 : rr Ea x k ≠ p := fun z => by rw [← z, hf.2.2.1] at hp; omega
    exact ⟨rr_keep hk hx.1 hne k, ((hk _ hf.2.1).2.2.2 hne2).2.2.1⟩
  obtain ⟨a1, a2⟩ := ar 0 8 (WFt_A hW hx (by simp [rqT]))
  obtain ⟨b1, b2⟩ := ar 1 6 (WFt_A hW hx (by simp [rqT]))
  obtain ⟨c1, c2⟩ := ar 2 6 (WFt_A hW hx (by simp [rqT]))
  obtain ⟨h1, h2, h3, h4, h5⟩ := h
  have hr := ((hk x hx.1).2.2.2 hne).2.2.1
  exact ⟨fun j hj => by rw [a1, a2]; exact h1 j hj, fun j hj => by rw [b1, b2]; exact h2 j hj, fun j hj => by rw [c1, c2]; exact h3 j hj, (hr 3).trans h4, (hr 4).trans h5⟩
theorem Ho0_k : ∀ (Ea : Env1) (Ma : Mem) (Eb : Env1) (Mb : Mem) (p x : Nat), WFt Ea → isK Ea x 0 → 20 ≤ eK Ea p → Keep Ea Ma Eb Mb p → Ho0 Ea Ma x → Ho0 Eb Mb x := by
  intro Ea Ma Eb Mb p x hW hx hp hk h
  have hne : x ≠ p := fun z => by rw [← z, hx.2] at hp; omega
  obtain ⟨h1, h2, h3, h4, h5, h6⟩ := h
  have hr := ((hk x hx.1).2.2.2 hne).2.2.1
  refine ⟨(hr 0).trans h1, (hr 5).trans h2, ?_, ?_, ?_, ?_⟩
  · rw [rr_keep hk hx.1 hne]
    exact St0_k Ea Ma Eb Mb p _ hW (WFt_K hW hx (by simp [rqT])).2 hp hk h3
  · rw [rr_keep hk hx.1 hne]
    exact Rw0_k Ea Ma Eb Mb p _ hW (WFt_K hW hx (by simp [rqT])).2 hp hk h4
  · rw [rr_keep hk hx.1 hne]
    exact Rw0_k Ea Ma Eb Mb p _ hW (WFt_K hW hx (by simp [rqT])).2 hp hk h5
  · rw [rr_keep hk hx.1 hne]
    exact Rw0_k Ea Ma Eb Mb p _ hW (WFt_K hW hx (by simp [rqT])).2 hp hk h6
theorem isK_mark {E : Env1} {p c x d : Nat} (h : isK E x d) (hne : d ≠ eK E p) : isK (setK E p c) x d := ⟨h.1, (va_up_ne _ _ (fun z => hne (by rw [← z]; exact h.2.symm))).trans h.2⟩
theorem isA_mark {E : Env1} {p c x d n : Nat} (h : isA E x d n) (hne : d ≠ eK E p) : isA (setK E p c) x d n := ⟨h.1, (va_up_ne _ _ (fun z => hne (by rw [← z]; exact h.2.1.symm))).trans h.2.1, h.2.2⟩
theorem WM_mark13 {E : Env1} {M : Mem} {q : Nat} (hq : 20 ≤ eK E q) (hm : ∀ j, j < 8 → isK E (mr M q j) 4) (h : WM E M) : WM (setK E q 13) M := by
  intro x hx j hj
  by_cases hxq : x = q
  · subst hxq
    exact isK_mark (hm j hj) (by omega)
  · exact isK_mark (h x ⟨hx.1, (va_up_ne _ _ hxq).symm.trans hx.2.1, hx.2.2⟩ j hj) (by omega)

section
variable {X : Ctx} {l0 : Launch} {E : Env1} {cs : Nat × Nat} {own : String} {cc : ByteArray} {ret : Option FieldType} {nL pc : Nat} {rm : Room} {L : List (Option Value)} {stk st : List Value} {M M' : Mem}
variable {y : MethodName} {cc2 : ByteArray} {maxL2 : Nat} {ret2 : Option FieldType} {rm2 : Room} {as : List Value} {idx n ci q : Nat} {C : String} {T : u_T} {N : Nat}
theorem G_lVi (h : Cx X l0 E own cc ret nL rm) {r : Int32} (hM0 : Met l0 y (wsA y cc2 maxL2 ret2) rm2 (CP E M (.ref q :: as)) (CQi E r M') 0 0 (eA E)) (hcl : vwCl[ci]? = some (C, T, N)) (hci : ci < 9) (hyC : y.cls = C) (hy : nameOk y n) (hlink : Cond.methodLink own idx y ∈ lw_g) (hinst : Cond.instanceMethod y ∈ lw_g) (hsel : Cond.selects C y y ∈ lw_g) (hini : Cond.initialized C ∈ lw_g) (hcode : Cond.code y cc2 maxL2 ret2 ∈ lw_g)
    (hd : decode cc pc = .ok (.invokevirtual idx, 3)) (hq : isK E q ci) (hstk : stk = as.reverse ++ .ref q :: st) {pc' : Nat} (hp : pc + 3 = pc') (hroom : roomOk rm2 rm maxL2) (hn : as.length = n) (hcat : (st.map fun v => v.category).sum ≤ 8) (hcs : cs.1 ≤ rm.cells ∧ cs.2 ≤ rm.slots) (kk : G X E cs pc' L (.int r :: st) M') : G X E cs pc L stk M := by
  subst hp
  obtain ⟨p, l, e, R, s, m, args, below, meth, c, Q, nl⟩ := X
  obtain ⟨hx, hb, hr, hml, hown, hts, hlk, hK, hB, rfl, rfl, rfl, hN, hZ⟩ := h
  intro H locs ls hW hM hl
  obtain ⟨hP, hD, hS⟩ := hW
  have hBH : eB E ≤ H.size := Nat.le_trans hB hS.1
  obtain ⟨j, hj⟩ := va_pl_get (X := []) (f := cel E M) hq.1
  rw [pl0, cel_obj hq.2 hci] at hj
  have hcw := callB_of (own := own) (index := idx) n hts (wsA_good hcode) rfl hroom.1 hroom.2.1 (by rw [hyC]; exact hts _ hini) (hts _ hlink) hy hroom.2.2
  refine va_calli (va_runV (C := C) ⟨hx, hb, hml, hown, hts⟩ hM0 ⟨hcw, hts _ hinst, hts _ hsel⟩ ⟨CP_blind, va_recv hK hP hcl hj, fun U hU hW => ⟨rfl, PreU_at hK hP hD hBH hM hN hS hZ hU hW⟩⟩ rfl hn hl.1 hstk (by simpa using hcat) hd hcs) hS (fun _ _ z => z) (fun _ z => z) (fun r0 _ t H1 locs1 ht hvm hpost hB1 hz1 hk1 hS1 => ?_)
  obtain ⟨hP2, hK2, hD2, hB2, hM2, -, -⟩ := hB1
  rw [ht] at hP2
  obtain rfl := hpost
  exact kk H1 locs1 ls ⟨hP2, hD2, hS1⟩ hM2 hl
theorem G_lVl (h : Cx X l0 E own cc ret nL rm) {r : Int64} (hM0 : Met l0 y (wsA y cc2 maxL2 ret2) rm2 (CP E M (.ref q :: as)) (CQl E r M') 0 0 (eA E)) (hcl : vwCl[ci]? = some (C, T, N)) (hci : ci < 9) (hyC : y.cls = C) (hy : nameOk y n) (hlink : Cond.methodLink own idx y ∈ lw_g) (hinst : Cond.instanceMethod y ∈ lw_g) (hsel : Cond.selects C y y ∈ lw_g) (hini : Cond.initialized C ∈ lw_g) (hcode : Cond.code y cc2 maxL2 ret2 ∈ lw_g)
    (hd : decode cc pc = .ok (.invokevirtual idx, 3)) (hq : isK E q ci) (hstk : stk = as.reverse ++ .ref q :: st) {pc' : Nat} (hp : pc + 3 = pc') (hroom : roomOk rm2 rm maxL2) (hn : as.length = n) (hcat : (st.map fun v => v.category).sum ≤ 8) (hcs : cs.1 ≤ rm.cells ∧ cs.2 ≤ rm.slots) (kk : G X E cs pc' L (.long r :: st) M') : G X E cs pc L stk M := by
  subst hp
  obtain ⟨p, l, e, R, s, m, args, below, meth, c, Q, nl⟩ := X
  obtain ⟨hx, hb, hr, hml, hown, hts, hlk, hK, hB, rfl, rfl, rfl, hN, hZ⟩ := h
  intro H locs ls hW hM hl
  obtain ⟨hP, hD, hS⟩ := hW
  have hBH : eB E ≤ H.size := Nat.le_trans hB hS.1
  obtain ⟨j, hj⟩ := va_pl_get (X := []) (f := cel E M) hq.1
  rw [pl0, cel_obj hq.2 hci] at hj
  have hcw := callB_of (own := own) (index := idx) n hts (wsA_good hcode) rfl hroom.1 hroom.2.1 (by rw [hyC]; exact hts _ hini) (hts _ hlink) hy hroom.2.2
  refine va_calll (va_runV (C := C) ⟨hx, hb, hml, hown, hts⟩ hM0 ⟨hcw, hts _ hinst, hts _ hsel⟩ ⟨CP_blind, va_recv hK hP hcl hj, fun U hU hW => ⟨rfl, PreU_at hK hP hD hBH hM hN hS hZ hU hW⟩⟩ rfl hn hl.1 hstk (by simpa using hcat) hd hcs) hS (fun _ _ z => z) (fun _ z => z) (fun r0 _ t H1 locs1 ht hvm hpost hB1 hz1 hk1 hS1 => ?_)
  obtain ⟨hP2, hK2, hD2, hB2, hM2, -, -⟩ := hB1
  rw [ht] at hP2
  obtain rfl := hpost
  exact kk H1 locs1 ls ⟨hP2, hD2, hS1⟩ hM2 hl
theorem G_lVv (h : Cx X l0 E own cc ret nL rm) (hM0 : Met l0 y (wsA y cc2 maxL2 ret2) rm2 (CP E M (.ref q :: as)) (CQv E M') 0 0 (eA E)) (hcl : vwCl[ci]? = some (C, T, N)) (hci : ci < 9) (hyC : y.cls = C) (hy : nameOk y n) (hlink : Cond.methodLink own idx y ∈ lw_g) (hinst : Cond.instanceMethod y ∈ lw_g) (hsel : Cond.selects C y y ∈ lw_g) (hini : Cond.initialized C ∈ lw_g) (hcode : Cond.code y cc2 maxL2 ret2 ∈ lw_g)
    (hd : decode cc pc = .ok (.invokevirtual idx, 3)) (hq : isK E q ci) (hstk : stk = as.reverse ++ .ref q :: st) {pc' : Nat} (hp : pc + 3 = pc') (hroom : roomOk rm2 rm maxL2) (hn : as.length = n) (hcat : (st.map fun v => v.category).sum ≤ 8) (hcs : cs.1 ≤ rm.cells ∧ cs.2 ≤ rm.slots) (kk : G X E cs pc' L st M') : G X E cs pc L stk M := by
  subst hp
  obtain ⟨p, l, e, R, s, m, args, below, meth, c, Q, nl⟩ := X
  obtain ⟨hx, hb, hr, hml, hown, hts, hlk, hK, hB, rfl, rfl, rfl, hN, hZ⟩ := h
  intro H locs ls hW hM hl
  obtain ⟨hP, hD, hS⟩ := hW
  have hBH : eB E ≤ H.size := Nat.le_trans hB hS.1
  obtain ⟨j, hj⟩ := va_pl_get (X := []) (f := cel E M) hq.1
  rw [pl0, cel_obj hq.2 hci] at hj
  have hcw := callB_of (own := own) (index := idx) n hts (wsA_good hcode) rfl hroom.1 hroom.2.1 (by rw [hyC]; exact hts _ hini) (hts _ hlink) hy hroom.2.2
  refine va_callv (va_runV (C := C) ⟨hx, hb, hml, hown, hts⟩ hM0 ⟨hcw, hts _ hinst, hts _ hsel⟩ ⟨CP_blind, va_recv hK hP hcl hj, fun U hU hW => ⟨rfl, PreU_at hK hP hD hBH hM hN hS hZ hU hW⟩⟩ rfl hn hl.1 hstk (by simpa using hcat) hd hcs) hS (fun _ _ z => z) (fun _ z => z) (fun _ t H1 locs1 ht hvm hpost hB1 hz1 hk1 hS1 => ?_)
  obtain ⟨hP2, hK2, hD2, hB2, hM2, -, -⟩ := hB1
  rw [ht] at hP2
  exact kk H1 locs1 ls ⟨hP2, hD2, hS1⟩ hM2 hl
end
def rm_X1_init : Room := { frames := 1, cells := 0, slots := 0, locals := 12 }
def rm_X6_init : Room := { frames := 2, cells := 0, slots := 0, locals := 32 }
def rm_X2_init : Room := { frames := 2, cells := 0, slots := 0, locals := 32 }
def rm_X4_init : Room := { frames := 1, cells := 1, slots := 24, locals := 12 }
def rm_X5_init : Room := { frames := 1, cells := 3, slots := 20, locals := 21 }
def rm_X0_init : Room := { frames := 3, cells := 47, slots := 323, locals := 52 }
def rm_X3_init : Room := { frames := 1, cells := 3, slots := 552, locals := 12 }
def rm_X7_init : Room := { frames := 1, cells := 2, slots := 158, locals := 12 }
def rm_X8_init : Room := { frames := 4, cells := 201, slots := 2065, locals := 73 }
def rm_X9_init : Room := { frames := 1, cells := 17, slots := 1539, locals := 21 }
set_option maxRecDepth 100000 in
set_option maxHeartbeats 8000000 in
theorem ok_init_X1 (l0 : Launch) {E : Env1} {M : Mem} {q : Nat} : Met l0 yX1_init (wsA yX1_init cX1_init 1 none) rm_X1_init (CP E M [.ref q]) (CQn E (fun E' M' => E' = E ∧ M' = M)) 0 0 (eA E) := by
  refine mtC l0 (by decide +kernel) rfl (Nat.le_of_ble_eq_true rfl) (L0 := [some (.ref q)]) rfl (fun X h hI hR => ?_)
  refine G_aload_n h dX1_init_0 (i := 0) rfl rfl rfl ?_
  refine G_objInit h (lwg (List.mem_of_getElem? (i := 170) (by decide +kernel)) rfl) (lwg (List.mem_of_getElem? (i := 97) (by decide +kernel)) rfl) (lwg (List.mem_of_getElem? (i := 98) (by decide +kernel)) rfl) dX1_init_1 rfl (Nat.le_of_ble_eq_true rfl) (Nat.le_of_ble_eq_true rfl) ?_
  exact hR _ _ _ _ dX1_init_4 Same.rf ⟨rfl, rfl⟩
set_option maxRecDepth 100000 in
set_option maxHeartbeats 8000000 in
theorem ok_init_X6 (l0 : Launch) {E : Env1} {M : Mem} {th : Nat} (hW : WFt E) (hK : isK E th (20 + 5)) (hr : ∀ k, eR E th k = none) (hi : ∀ j, mi M th j = 0) (hl : ∀ j, ml M th j = 0) : Met l0 yX6_init (wsA yX6_init cX6_init 1 none) rm_X6_init (CP E M [.ref th]) (CQn E (fun E' M' => Gr E M E' M' th ∧ isK E' th 5 ∧ Tr0 E' M' th)) 0 0 (eA E) := by
  have hG : Gr E M E M th := gr_rf hr
  refine mtC l0 (by decide +kernel) rfl (Nat.le_of_ble_eq_true rfl) (L0 := [some (.ref th)]) rfl (fun X h hI hR => ?_)
  have h : Cx X l0 E RX6 cX6_init none 1 rm_X6_init := h
  refine G_aload_n h dX6_init_0 (i := 0) rfl rfl rfl ?_
  refine G_cIN h (host := RX8) (ok_init_X1 l0 (q := th)) rfl ⟨by decide +kernel, by decide +kernel, by decide +kernel⟩ (by simp [nwM]) (lwg (List.mem_of_getElem? (i := 168) (by decide +kernel)) rfl) (lwg (List.mem_of_getElem? (i := 79) (by decide +kernel)) rfl) (lwg (List.mem_of_getElem? (i := 169) (by decide +kernel)) rfl) dX6_init_1 rfl ⟨rfl, rfl, (Nat.le_of_ble_eq_true rfl), (Nat.le_of_ble_eq_true rfl)⟩ (Nat.le_of_ble_eq_true rfl) ⟨(Nat.le_of_ble_eq_true rfl), (Nat.le_of_ble_eq_true rfl)⟩ (fun E1 M1 hsm hpo => ?_)
  obtain ⟨rfl, rfl⟩ := hpo
  refine G_mark (q := th) (c := 5) hK.2 (Or.inl (by decide)) (WM_setK (by rw [hK.2]; omega) (by decide)) ?_
  exact hR _ _ _ _ dX6_init_4 ⟨rfl, rfl, rfl, rfl, rfl⟩ ⟨gr_mark hG hK.1 (Or.inl rfl) (by rw [hK.2]; omega) (fun e he => by simp [rqT] at he) (fun z => absurd z (by decide)), ⟨hK.1, va_up_self _ _ _⟩, trivial⟩
set_option maxRecDepth 100000 in
set_option maxHeartbeats 8000000 in
theorem ok_init_X2 (l0 : Launch) {E : Env1} {M : Mem} {th : Nat} (hW : WFt E) (hK : isK E th (20 + 1)) (hr : ∀ k, eR E th k = none) (hi : ∀ j, mi M th j = 0) (hl : ∀ j, ml M th j = 0) : Met l0 yX2_init (wsA yX2_init cX2_init 1 none) rm_X2_init (CP E M [.ref th]) (CQn E (fun E' M' => Gr E M E' M' th ∧ isK E' th 1 ∧ Tr0 E' M' th)) 0 0 (eA E) := by
  have hG : Gr E M E M th := gr_rf hr
  refine mtC l0 (by decide +kernel) rfl (Nat.le_of_ble_eq_true rfl) (L0 := [some (.ref th)]) rfl (fun X h hI hR => ?_)
  have h : Cx X l0 E RX2 cX2_init none 1 rm_X2_init := h
  refine G_aload_n h dX2_init_0 (i := 0) rfl rfl rfl ?_
  refine G_cIN h (host := RX8) (ok_init_X1 l0 (q := th)) rfl ⟨by decide +kernel, by decide +kernel, by decide +kernel⟩ (by simp [nwM]) (lwg (List.mem_of_getElem? (i := 168) (by decide +kernel)) rfl) (lwg (List.mem_of_getElem? (i := 79) (by decide +kernel)) rfl) (lwg (List.mem_of_getElem? (i := 169) (by decide +kernel)) rfl) dX2_init_1 rfl ⟨rfl, rfl, (Nat.le_of_ble_eq_true rfl), (Nat.le_of_ble_eq_true rfl)⟩ (Nat.le_of_ble_eq_true rfl) ⟨(Nat.le_of_ble_eq_true rfl), (Nat.le_of_ble_eq_true rfl)⟩ (fun E1 M1 hsm hpo => ?_)
  obtain ⟨rfl, rfl⟩ := hpo
  refine G_mark (q := th) (c := 1) hK.2 (Or.inl (by decide)) (WM_setK (by rw [hK.2]; omega) (by decide)) ?_
  exact hR _ _ _ _ dX2_init_4 ⟨rfl, rfl, rfl, rfl, rfl⟩ ⟨gr_mark hG hK.1 (Or.inl rfl) (by rw [hK.2]; omega) (fun e he => by simp [rqT] at he) (fun z => absurd z (by decide)), ⟨hK.1, va_up_self _ _ _⟩, trivial⟩
set_option maxRecDepth 100000 in
set_option maxHeartbeats 8000000 in
theorem ok_init_X4 (l0 : Launch) {E : Env1} {M : Mem} {th : Nat} (hW : WFt E) (hK : isK E th (20 + 3)) (hr : ∀ k, eR E th k = none) (hi : ∀ j, mi M th j = 0) (hl : ∀ j, ml M th j = 0) : Met l0 yX4_init (wsA yX4_init cX4_init 1 none) rm_X4_init (CP E M [.ref th]) (CQn E (fun E' M' => Gr E M E' M' th ∧ isK E' th 3 ∧ Rw0 E' M' th)) 1 24 (eA E) := by
  have hG : Gr E M E M th := gr_rf hr
  have hth : th ∈ eL E := hK.1
  have n1 := hr 1
  have i0 := hi 0
  refine mtC l0 (by decide +kernel) rfl (Nat.le_of_ble_eq_true rfl) (L0 := [some (.ref th)]) rfl (fun X h hI hR => ?_)
  have h : Cx X l0 E RX4 cX4_init none 1 rm_X4_init := h
  refine G_aload_n h dX4_init_0 (i := 0) rfl rfl rfl ?_
  refine G_objInit h (lwg (List.mem_of_getElem? (i := 151) (by decide +kernel)) rfl) (lwg (List.mem_of_getElem? (i := 97) (by decide +kernel)) rfl) (lwg (List.mem_of_getElem? (i := 98) (by decide +kernel)) rfl) dX4_init_1 rfl (Nat.le_of_ble_eq_true rfl) (Nat.le_of_ble_eq_true rfl) ?_
  refine G_aload_n h dX4_init_4 (i := 0) rfl rfl rfl ?_
  refine G_iconst h dX4_init_5 (v := 0) (by decide) rfl ?_
  have hWc := hG.2.2.2.2.1 hW
  have hKo := hK
  refine G_puti h (T := TX4) (N := 2) (ci := 3) (k := 0) rfl inG4 (lwg (List.mem_of_getElem? (i := 152) (by decide +kernel)) rfl) rfl (by decide) rfl (by decide) tyX4 tyX4_ok nmX4 rfl rfl dX4_init_6 (Or.inr rfl) hK rfl ?_
  obtain ⟨M1, hM1⟩ : ∃ z, z = wi M th 0 (0 : Int32) := ⟨_, rfl⟩
  rw [← hM1]
  have hG : Gr E M E M1 th := by rw [hM1]; exact gr_wi hG
  have hKp : Keep E M E M1 th := by rw [hM1]; exact keep_wi
  have i0 : mi M1 th 0 = (0 : Int32) := by rw [hM1, mi_wi]; exact if_pos ⟨rfl, rfl⟩
  refine G_aload_n h dX4_init_9 (i := 0) rfl rfl rfl ?_
  refine G_bipush h dX4_init_10 (v := 24) (by decide) rfl ?_
  have hWc := hG.2.2.2.2.1 hW
  have hKo := hK
  refine G_fldI (T := TX4) (N := 2) (ci := 3) (k := 1) rfl inG4 (lwg (List.mem_of_getElem? (i := 156) (by decide +kernel)) rfl) rfl (by decide) rfl (by decide) tyX4 tyX4_ok nmX4 rfl rfl (fun _ => rfl) (fun _ => rfl) h hI hG hth hK n1 (lwg (List.mem_of_getElem? (i := 144) (by decide +kernel)) rfl) (N' := 24) (by decide) (by decide) (Nat.le_of_ble_eq_true rfl) (Nat.le_of_ble_eq_true rfl) (Nat.le_of_ble_eq_true rfl) dX4_init_12 dX4_init_14 rfl (fun E2 M2 q1 h hG hKp hkp hK f1 hko a1 hq1 u1 u1l => ?_)
  have i0 := (hkp 0).1.trans i0
  have hGm := gr_mark (c := 3) hG hK.1 (Or.inl rfl) (by rw [hK.2]; omega) (fun e he => by
      simp only [rqT, List.mem_cons, List.not_mem_nil, or_false] at he
      rcases he with rfl
      · exact okA f1 a1) (fun z => absurd z (by decide))
  refine G_mark (q := th) (c := 3) hK.2 (Or.inl (by decide)) (WM_setK (by rw [hK.2]; omega) (by decide)) ?_
  exact hR _ _ _ _ dX4_init_17 hGm.1 ⟨hGm, ⟨hK.1, va_up_self _ _ _⟩, i0⟩
set_option maxRecDepth 100000 in
set_option maxHeartbeats 8000000 in
theorem ok_init_X5 (l0 : Launch) {E : Env1} {M : Mem} {th : Nat} (hW : WFt E) (hK : isK E th (20 + 4)) (hr : ∀ k, eR E th k = none) (hi : ∀ j, mi M th j = 0) (hl : ∀ j, ml M th j = 0) : Met l0 yX5_init (wsA yX5_init cX5_init 1 none) rm_X5_init (CP E M [.ref th]) (CQn E (fun E' M' => Gr E M E' M' th ∧ isK E' th 4 ∧ St0 E' M' th)) 3 20 (eA E) := by
  have hG : Gr E M E M th := gr_rf hr
  have hth : th ∈ eL E := hK.1
  have n0 := hr 0
  have n1 := hr 1
  have n2 := hr 2
  have i3 := hi 3
  have i4 := hi 4
  refine mtC l0 (by decide +kernel) rfl (Nat.le_of_ble_eq_true rfl) (L0 := [some (.ref th)]) rfl (fun X h hI hR => ?_)
  have h : Cx X l0 E RX5 cX5_init none 1 rm_X5_init := h
  refine G_aload_n h dX5_init_0 (i := 0) rfl rfl rfl ?_
  refine G_objInit h (lwg (List.mem_of_getElem? (i := 110) (by decide +kernel)) rfl) (lwg (List.mem_of_getElem? (i := 97) (by decide +kernel)) rfl) (lwg (List.mem_of_getElem? (i := 98) (by decide +kernel)) rfl) dX5_init_1 rfl (Nat.le_of_ble_eq_true rfl) (Nat.le_of_ble_eq_true rfl) ?_
  refine G_aload_n h dX5_init_4 (i := 0) rfl rfl rfl ?_
  refine G_bipush h dX5_init_5 (v := 8) (by decide) rfl ?_
  have hWc := hG.2.2.2.2.1 hW
  have hKo := hK
  refine G_fldI (T := TX5) (N := 5) (ci := 4) (k := 0) rfl inG5 (lwg (List.mem_of_getElem? (i := 115) (by decide +kernel)) rfl) rfl (by decide) rfl (by decide) tyX5 tyX5_ok nmX5 rfl rfl (fun _ => rfl) (fun _ => rfl) h hI hG hth hK n0 (lwg (List.mem_of_getElem? (i := 144) (by decide +kernel)) rfl) (N' := 8) (by decide) (by decide) (Nat.le_of_ble_eq_true rfl) (Nat.le_of_ble_eq_true rfl) (Nat.le_of_ble_eq_true rfl) dX5_init_7 dX5_init_9 rfl (fun E1 M1 q0 h hG hKp hkp hK f0 hko a0 hq0 u0 u0l => ?_)
  have n1 := (hko 1 (by decide)).trans n1
  have n2 := (hko 2 (by decide)).trans n2
  have i3 := (hkp 3).1.trans i3
  have i4 := (hkp 4).1.trans i4
  refine G_aload_n h dX5_init_12 (i := 0) rfl rfl rfl ?_
  refine G_bipush h dX5_init_13 (v := 6) (by decide) rfl ?_
  have hWc := hG.2.2.2.2.1 hW
  have hKo := hK
  have a0_o := a0
  have hKo_ne0 : q0 = th → False := fun z => absurd ((congrArg (eK E1) z).symm.trans a0.2.1) (by rw [hK.2]; decide)
  refine G_fldI (T := TX5) (N := 5) (ci := 4) (k := 1) rfl inG5 (lwg (List.mem_of_getElem? (i := 119) (by decide +kernel)) rfl) rfl (by decide) rfl (by decide) tyX5 tyX5_ok nmX5 rfl rfl (fun _ => rfl) (fun _ => rfl) h hI hG hth hK n1 (lwg (List.mem_of_getElem? (i := 144) (by decide +kernel)) rfl) (N' := 6) (by decide) (by decide) (Nat.le_of_ble_eq_true rfl) (Nat.le_of_ble_eq_true rfl) (Nat.le_of_ble_eq_true rfl) dX5_init_15 dX5_init_17 rfl (fun E2 M2 q1 h hG hKp hkp hK f1 hko a1 hq1 u1 u1l => ?_)
  have f0 := (hko 0 (by decide)).trans f0
  have a0 := hKp.A a0
  have n2 := (hko 2 (by decide)).trans n2
  have i3 := (hkp 3).1.trans i3
  have i4 := (hkp 4).1.trans i4
  refine G_aload_n h dX5_init_20 (i := 0) rfl rfl rfl ?_
  refine G_bipush h dX5_init_21 (v := 6) (by decide) rfl ?_
  have hWc := hG.2.2.2.2.1 hW
  have hKo := hK
  have a0_o := a0
  have hKo_ne0 : q0 = th → False := fun z => absurd ((congrArg (eK E2) z).symm.trans a0.2.1) (by rw [hK.2]; decide)
  have a1_o := a1
  have hKo_ne1 : q1 = th → False := fun z => absurd ((congrArg (eK E2) z).symm.trans a1.2.1) (by rw [hK.2]; decide)
  refine G_fldI (T := TX5) (N := 5) (ci := 4) (k := 2) rfl inG5 (lwg (List.mem_of_getElem? (i := 122) (by decide +kernel)) rfl) rfl (by decide) rfl (by decide) tyX5 tyX5_ok nmX5 rfl rfl (fun _ => rfl) (fun _ => rfl) h hI hG hth hK n2 (lwg (List.mem_of_getElem? (i := 144) (by decide +kernel)) rfl) (N' := 6) (by decide) (by decide) (Nat.le_of_ble_eq_true rfl) (Nat.le_of_ble_eq_true rfl) (Nat.le_of_ble_eq_true rfl) dX5_init_23 dX5_init_25 rfl (fun E3 M3 q2 h hG hKp hkp hK f2 hko a2 hq2 u2 u2l => ?_)
  have f0 := (hko 0 (by decide)).trans f0
  have a0 := hKp.A a0
  have f1 := (hko 1 (by decide)).trans f1
  have a1 := hKp.A a1
  have i3 := (hkp 3).1.trans i3
  have i4 := (hkp 4).1.trans i4
  refine G_aload_n h dX5_init_28 (i := 0) rfl rfl rfl ?_
  have hGm := gr_mark (c := 4) hG hK.1 (Or.inl rfl) (by rw [hK.2]; omega) (fun e he => by
      simp only [rqT, List.mem_cons, List.not_mem_nil, or_false] at he
      rcases he with rfl | rfl | rfl
      · exact okA f0 a0
      · exact okA f1 a1
      · exact okA f2 a2) (fun z => absurd z (by decide))
  refine G_mark (q := th) (c := 4) hK.2 (Or.inl (by decide)) (WM_setK (by rw [hK.2]; omega) (by decide)) ?_
  have h := Cx_same (E' := setK E3 th 4) ⟨rfl, rfl, rfl, rfl, rfl⟩ h
  have hK4 : isK (setK E3 th 4) th 4 := ⟨hK.1, va_up_self _ _ _⟩
  obtain ⟨Mr, r1, r2, r3⟩ := reset_spec (setK E3 th 4) M3 th
  refine G_lVv h (ok_X5_reset (WF_of (hGm.2.2.2.2.1 hW)) l0 hK4 r1) (ci := 4) (C := RX5) (T := TX5) (N := 5) (n := 0) rfl (by decide) rfl ⟨by decide +kernel, by decide +kernel, by decide +kernel⟩ (lwg (List.mem_of_getElem? (i := 111) (by decide +kernel)) rfl) (lwg (List.mem_of_getElem? (i := 112) (by decide +kernel)) rfl) (lwg (List.mem_of_getElem? (i := 113) (by decide +kernel)) rfl) (lwg (List.mem_of_getElem? (i := 77) (by decide +kernel)) rfl) (lwg (List.mem_of_getElem? (i := 114) (by decide +kernel)) rfl) dX5_init_29 hK4 (as := []) rfl rfl ⟨rfl, rfl, (Nat.le_of_ble_eq_true rfl), (Nat.le_of_ble_eq_true rfl)⟩ rfl (Nat.le_of_ble_eq_true rfl) ⟨(Nat.le_of_ble_eq_true rfl), (Nat.le_of_ble_eq_true rfl)⟩ ?_
  have g0 : rr (setK E3 th 4) th 0 = q0 := rr_of f0
  have g1 : rr (setK E3 th 4) th 1 = q1 := rr_of f1
  have g2 : rr (setK E3 th 4) th 2 = q2 := rr_of f2
  rw [g0, g1, g2] at r2
  have d01 : q0 ≠ q1 := fun z => absurd (hGm.2.2.2.1 th 0 th 1 q0 hK.1 hK.1 (Or.inr rfl) (Or.inr rfl) f0 (by rw [z]; exact f1)).2 (by decide)
  have d02 : q0 ≠ q2 := fun z => absurd (hGm.2.2.2.1 th 0 th 2 q0 hK.1 hK.1 (Or.inr rfl) (Or.inr rfl) f0 (by rw [z]; exact f2)).2 (by decide)
  have d12 : q1 ≠ q2 := fun z => absurd (hGm.2.2.2.1 th 1 th 2 q1 hK.1 hK.1 (Or.inr rfl) (Or.inr rfl) f1 (by rw [z]; exact f2)).2 (by decide)
  have nq0 : q0 ∉ eL E := (hGm.2.2.1 th 0 q0 hK.1 (Or.inr rfl) f0).2
  have nt0 : q0 ≠ th := fun z => nq0 (by rw [z]; exact hth)
  have nq1 : q1 ∉ eL E := (hGm.2.2.1 th 1 q1 hK.1 (Or.inr rfl) f1).2
  have nt1 : q1 ≠ th := fun z => nq1 (by rw [z]; exact hth)
  have nq2 : q2 ∉ eL E := (hGm.2.2.1 th 2 q2 hK.1 (Or.inr rfl) f2).2
  have nt2 : q2 ≠ th := fun z => nq2 (by rw [z]; exact hth)
  have hGr : Gr E M (setK E3 th 4) Mr th := by
    obtain ⟨y1, y2, y3, y4, y5, y6⟩ := hGm
    refine ⟨y1, fun q hq => ⟨(y2 q hq).1, (y2 q hq).2.1, fun hne => ?_⟩, y3, y4, y5, fun q hq hn h13 j hj => ?_⟩
    · obtain ⟨x1, x2, x3, x4, x5⟩ := (y2 q hq).2.2 hne
      refine ⟨x1, x2, fun k => ?_, fun k => ?_, fun k => ?_⟩
      · rw [r2, if_neg (fun z => hne z.1), if_neg (fun z => nq2 (by rw [← z.1]; exact hq)), if_neg (fun z => nq1 (by rw [← z.1]; exact hq)), if_neg (fun z => nq0 (by rw [← z.1]; exact hq))]
        exact x3 k
      · exact (congrArg (fun z => z.1 q k) r3).trans (x4 k)
      · exact (congrArg (fun z => z.2 q k) r3).trans (x5 k)
    · exact (congrArg (fun z => z.2 q j) r3).trans (y6 q hq hn h13 j hj)
  refine hR _ _ _ _ dX5_init_32 hGr.1 ⟨hGr, hK4, ?_⟩
  unfold St0
  rw [g0, g1, g2]
  refine ⟨fun j hj => ?_, fun j hj => ?_, fun j hj => ?_, ?_, ?_⟩
  · rw [r2, if_neg (fun z => nt0 z.1), if_neg (fun z => d02 z.1), if_neg (fun z => d01 z.1), if_pos ⟨rfl, hj⟩]
  · rw [r2, if_neg (fun z => nt1 z.1), if_neg (fun z => d12 z.1), if_pos ⟨rfl, hj⟩]
  · rw [r2, if_neg (fun z => nt2 z.1), if_pos ⟨rfl, hj⟩]
  · rw [r2, if_pos ⟨rfl, Or.inl rfl⟩]
  · rw [r2, if_pos ⟨rfl, Or.inr rfl⟩]
set_option maxRecDepth 100000 in
set_option maxHeartbeats 8000000 in
theorem ok_init_X0 (l0 : Launch) {E : Env1} {M : Mem} {th : Nat} (hW : WFt E) (hK : isK E th (20 + 0)) (hr : ∀ k, eR E th k = none) (hi : ∀ j, mi M th j = 0) (hl : ∀ j, ml M th j = 0) : Met l0 yX0_init (wsA yX0_init cX0_init 2 none) rm_X0_init (CP E M [.ref th]) (CQn E (fun E' M' => Gr E M E' M' th ∧ isK E' th 0 ∧ Ho0 E' M' th)) 47 323 (eA E) := by
  have hG : Gr E M E M th := gr_rf hr
  have hth : th ∈ eL E := hK.1
  have n1 := hr 1
  have n2 := hr 2
  have n3 := hr 3
  have n4 := hr 4
  have n6 := hr 6
  have n7 := hr 7
  have n8 := hr 8
  have n9 := hr 9
  have n10 := hr 10
  have i0 := hi 0
  have i5 := hi 5
  refine mtC l0 (by decide +kernel) rfl (Nat.le_of_ble_eq_true rfl) (L0 := [some (.ref th), none]) rfl (fun X h hI hR => ?_)
  have h : Cx X l0 E RX0 cX0_init none 2 rm_X0_init := h
  refine G_aload_n h dX0_init_0 (i := 0) rfl rfl rfl ?_
  refine G_objInit h (lwg (List.mem_of_getElem? (i := 104) (by decide +kernel)) rfl) (lwg (List.mem_of_getElem? (i := 97) (by decide +kernel)) rfl) (lwg (List.mem_of_getElem? (i := 98) (by decide +kernel)) rfl) dX0_init_1 rfl (Nat.le_of_ble_eq_true rfl) (Nat.le_of_ble_eq_true rfl) ?_
  refine G_aload_n h dX0_init_4 (i := 0) rfl rfl rfl ?_
  refine G_iconst h dX0_init_5 (v := 0) (by decide) rfl ?_
  have hWc := hG.2.2.2.2.1 hW
  have hKo := hK
  refine G_puti h (T := TX0) (N := 11) (ci := 0) (k := 0) rfl inG0 (lwg (List.mem_of_getElem? (i := 179) (by decide +kernel)) rfl) rfl (by decide) rfl (by decide) tyX0 tyX0_ok nmX0 rfl rfl dX0_init_6 (Or.inr rfl) hK rfl ?_
  obtain ⟨M1, hM1⟩ : ∃ z, z = wi M th 0 (0 : Int32) := ⟨_, rfl⟩
  rw [← hM1]
  have hG : Gr E M E M1 th := by rw [hM1]; exact gr_wi hG
  have hKp : Keep E M E M1 th := by rw [hM1]; exact keep_wi
  have i0 : mi M1 th 0 = (0 : Int32) := by rw [hM1, mi_wi]; exact if_pos ⟨rfl, rfl⟩
  have i5 := (show mi M1 th 5 = mi M th 5 by rw [hM1]; rw [mi_wi]; exact if_neg (fun z => absurd z.2 (by decide))).trans i5
  refine G_aload_n h dX0_init_9 (i := 0) rfl rfl rfl ?_
  refine G_bipush h dX0_init_10 (v := 6) (by decide) rfl ?_
  have hWc := hG.2.2.2.2.1 hW
  have hKo := hK
  refine G_fldI (T := TX0) (N := 11) (ci := 0) (k := 1) rfl inG0 (lwg (List.mem_of_getElem? (i := 182) (by decide +kernel)) rfl) rfl (by decide) rfl (by decide) tyX0 tyX0_ok nmX0 rfl rfl (fun _ => rfl) (fun _ => rfl) h hI hG hth hK n1 (lwg (List.mem_of_getElem? (i := 144) (by decide +kernel)) rfl) (N' := 6) (by decide) (by decide) (Nat.le_of_ble_eq_true rfl) (Nat.le_of_ble_eq_true rfl) (Nat.le_of_ble_eq_true rfl) dX0_init_12 dX0_init_14 rfl (fun E2 M2 q1 h hG hKp hkp hK f1 hko a1 hq1 u1 u1l => ?_)
  have n2 := (hko 2 (by decide)).trans n2
  have n3 := (hko 3 (by decide)).trans n3
  have n4 := (hko 4 (by decide)).trans n4
  have n6 := (hko 6 (by decide)).trans n6
  have n7 := (hko 7 (by decide)).trans n7
  have n8 := (hko 8 (by decide)).trans n8
  have n9 := (hko 9 (by decide)).trans n9
  have n10 := (hko 10 (by decide)).trans n10
  have i0 := (hkp 0).1.trans i0
  have i5 := (hkp 5).1.trans i5
  refine G_aload_n h dX0_init_17 (i := 0) rfl rfl rfl ?_
  refine G_bipush h dX0_init_18 (v := 6) (by decide) rfl ?_
  have hWc := hG.2.2.2.2.1 hW
  have hKo := hK
  have a1_o := a1
  have hKo_ne1 : q1 = th → False := fun z => absurd ((congrArg (eK E2) z).symm.trans a1.2.1) (by rw [hK.2]; decide)
  refine G_fldI (T := TX0) (N := 11) (ci := 0) (k := 2) rfl inG0 (lwg (List.mem_of_getElem? (i := 184) (by decide +kernel)) rfl) rfl (by decide) rfl (by decide) tyX0 tyX0_ok nmX0 rfl rfl (fun _ => rfl) (fun _ => rfl) h hI hG hth hK n2 (lwg (List.mem_of_getElem? (i := 144) (by decide +kernel)) rfl) (N' := 6) (by decide) (by decide) (Nat.le_of_ble_eq_true rfl) (Nat.le_of_ble_eq_true rfl) (Nat.le_of_ble_eq_true rfl) dX0_init_20 dX0_init_22 rfl (fun E3 M3 q2 h hG hKp hkp hK f2 hko a2 hq2 u2 u2l => ?_)
  have f1 := (hko 1 (by decide)).trans f1
  have a1 := hKp.A a1
  have n3 := (hko 3 (by decide)).trans n3
  have n4 := (hko 4 (by decide)).trans n4
  have n6 := (hko 6 (by decide)).trans n6
  have n7 := (hko 7 (by decide)).trans n7
  have n8 := (hko 8 (by decide)).trans n8
  have n9 := (hko 9 (by decide)).trans n9
  have n10 := (hko 10 (by decide)).trans n10
  have i0 := (hkp 0).1.trans i0
  have i5 := (hkp 5).1.trans i5
  refine G_aload_n h dX0_init_25 (i := 0) rfl rfl rfl ?_
  have hWc := hG.2.2.2.2.1 hW
  have hKo := hK
  have a1_o := a1
  have hKo_ne1 : q1 = th → False := fun z => absurd ((congrArg (eK E3) z).symm.trans a1.2.1) (by rw [hK.2]; decide)
  have a2_o := a2
  have hKo_ne2 : q2 = th → False := fun z => absurd ((congrArg (eK E3) z).symm.trans a2.2.1) (by rw [hK.2]; decide)
  refine G_fldO (T := TX0) (N := 11) (ci := 0) (k := 3) rfl inG0 (lwg (List.mem_of_getElem? (i := 186) (by decide +kernel)) rfl) rfl (by decide) rfl (by decide) tyX0 tyX0_ok nmX0 rfl rfl (fun _ => rfl) (fun _ => rfl) h hI hG hth hK n3 (C2 := RX5) (T2 := TX5) (N2 := 5) (c2 := 4) rfl (by decide) inG5 tyX5 tyX5_ok (by intro j hj; (rcases (show j = 0 ∨ j = 1 ∨ j = 2 ∨ j = 3 ∨ j = 4 by omega) with rfl | rfl | rfl | rfl | rfl) <;> rfl) (lwg (List.mem_of_getElem? (i := 105) (by decide +kernel)) rfl) (lwg (List.mem_of_getElem? (i := 106) (by decide +kernel)) rfl) (lwg (List.mem_of_getElem? (i := 77) (by decide +kernel)) rfl) (y := yX5_init) (Ini := St0) (fun E2 M2 q a1 a2 a3 a4 a5 => ok_init_X5 l0 a1 a2 a3 a4 a5) St0_k rfl ⟨by decide +kernel, by decide +kernel, by decide +kernel⟩ (lwg (List.mem_of_getElem? (i := 107) (by decide +kernel)) rfl) (lwg (List.mem_of_getElem? (i := 108) (by decide +kernel)) rfl) (lwg (List.mem_of_getElem? (i := 77) (by decide +kernel)) rfl) (lwg (List.mem_of_getElem? (i := 109) (by decide +kernel)) rfl) ⟨rfl, rfl, (Nat.le_of_ble_eq_true rfl), (Nat.le_of_ble_eq_true rfl)⟩ hW (Nat.le_of_ble_eq_true rfl) (Nat.le_of_ble_eq_true rfl) (Nat.le_of_ble_eq_true rfl) dX0_init_26 dX0_init_29 dX0_init_30 dX0_init_33 rfl (fun E4 M4 q3 h hG hKp hkp hK f3 hko a3 hq3 z3 hW3 => ?_)
  have f1 := (hko 1 (by decide)).trans f1
  have a1 := hKp.A a1
  have f2 := (hko 2 (by decide)).trans f2
  have a2 := hKp.A a2
  have n4 := (hko 4 (by decide)).trans n4
  have n6 := (hko 6 (by decide)).trans n6
  have n7 := (hko 7 (by decide)).trans n7
  have n8 := (hko 8 (by decide)).trans n8
  have n9 := (hko 9 (by decide)).trans n9
  have n10 := (hko 10 (by decide)).trans n10
  have i0 := (hkp 0).1.trans i0
  have i5 := (hkp 5).1.trans i5
  refine G_aload_n h dX0_init_36 (i := 0) rfl rfl rfl ?_
  refine G_bipush h dX0_init_37 (v := 8) (by decide) rfl ?_
  have hWc := hG.2.2.2.2.1 hW
  have hKo := hK
  have a1_o := a1
  have hKo_ne1 : q1 = th → False := fun z => absurd ((congrArg (eK E4) z).symm.trans a1.2.1) (by rw [hK.2]; decide)
  have a2_o := a2
  have hKo_ne2 : q2 = th → False := fun z => absurd ((congrArg (eK E4) z).symm.trans a2.2.1) (by rw [hK.2]; decide)
  have hGb := hG
  refine G_fldS (T := TX0) (N := 11) (ci := 0) (k := 4) rfl inG0 (lwg (List.mem_of_getElem? (i := 190) (by decide +kernel)) rfl) rfl (by decide) rfl (by decide) tyX0 tyX0_ok nmX0 rfl rfl (fun _ => rfl) (fun _ => rfl) h hI hG hth hK n4 (lwg (List.mem_of_getElem? (i := 105) (by decide +kernel)) rfl) (N' := 8) (by decide) (by decide) (Nat.le_of_ble_eq_true rfl) (Nat.le_of_ble_eq_true rfl) (Nat.le_of_ble_eq_true rfl) dX0_init_39 dX0_init_42 rfl (fun E5 M5 q4 h hG hKp hkp hK f4 hko a4 hq4 u4 => ?_)
  have f1 := (hko 1 (by decide)).trans f1
  have a1 := hKp.A a1
  have f2 := (hko 2 (by decide)).trans f2
  have a2 := hKp.A a2
  have z3 := St0_k _ _ _ _ th _ hWc a3 (by rw [hKo.2]; omega) hKp z3
  have f3 := (hko 3 (by decide)).trans f3
  have a3 := hKp.K a3
  have n6 := (hko 6 (by decide)).trans n6
  have n7 := (hko 7 (by decide)).trans n7
  have n8 := (hko 8 (by decide)).trans n8
  have n9 := (hko 9 (by decide)).trans n9
  have n10 := (hko 10 (by decide)).trans n10
  have i0 := (hkp 0).1.trans i0
  have i5 := (hkp 5).1.trans i5
  have t4_0 := u4 0
  have t4_1 := u4 1
  have t4_2 := u4 2
  have t4_3 := u4 3
  have t4_4 := u4 4
  have t4_5 := u4 5
  have t4_6 := u4 6
  have t4_7 := u4 7
  have hq4_0 : q4 ∉ eL E := fun z => hq4 (hGb.2.1 _ z).1
  refine G_iconst h dX0_init_45 (v := 0) (by decide) rfl ?_
  refine G_istore_n h dX0_init_46 (i := 1) rfl (by decide) (L' := [some (.ref th), some (.int 0)]) rfl rfl ?_
  refine G_iload_n h dX0_init_47 (i := 1) rfl rfl rfl ?_
  refine G_bipush h dX0_init_48 (v := 8) (by decide) rfl ?_
  refine G_icmp_ge h dX0_init_50 (tgt := 72) (by decide) rfl (fun c => absurd c (by decide)) (fun _ => ?_)
  refine G_aload_n h dX0_init_53 (i := 0) rfl rfl rfl ?_
  refine G_getr h (T := TX0) (N := 11) (ci := 0) (k := 4) rfl inG0 (lwg (List.mem_of_getElem? (i := 190) (by decide +kernel)) rfl) rfl (by decide) rfl (by decide) dX0_init_54 (Or.inr rfl) hK (by rw [rr_of f4]; exact f4) rfl ?_
  rw [rr_of f4]
  refine G_iload_n h dX0_init_57 (i := 1) rfl rfl rfl ?_
  have hWc := hG.2.2.2.2.1 hW
  have hKo := hK
  have a1_o := a1
  have hKo_ne1 : q1 = th → False := fun z => absurd ((congrArg (eK E5) z).symm.trans a1.2.1) (by rw [hK.2]; decide)
  have a2_o := a2
  have hKo_ne2 : q2 = th → False := fun z => absurd ((congrArg (eK E5) z).symm.trans a2.2.1) (by rw [hK.2]; decide)
  have a4_o := a4
  have hKo_ne4 : q4 = th → False := fun z => absurd ((congrArg (eK E5) z).symm.trans a4.2.1) (by rw [hK.2]; decide)
  have hAn : q4 ∉ eL E := fun z => hq4_0 z
  refine G_eltS (E := E) (M := M) (th := th) h hG hth a4 hAn (vi_lit (by decide)) (jx := 0) (by decide) t4_0 (C2 := RX5) (T2 := TX5) (N2 := 5) rfl inG5 tyX5 tyX5_ok (by intro j hj; (rcases (show j = 0 ∨ j = 1 ∨ j = 2 ∨ j = 3 ∨ j = 4 by omega) with rfl | rfl | rfl | rfl | rfl) <;> rfl) (lwg (List.mem_of_getElem? (i := 105) (by decide +kernel)) rfl) (lwg (List.mem_of_getElem? (i := 106) (by decide +kernel)) rfl) (lwg (List.mem_of_getElem? (i := 77) (by decide +kernel)) rfl) (y := yX5_init) (Ini := St0) (fun E2 M2 q a1 a2 a3 a4 a5 => ok_init_X5 l0 a1 a2 a3 a4 a5) St0_k rfl ⟨by decide +kernel, by decide +kernel, by decide +kernel⟩ (lwg (List.mem_of_getElem? (i := 107) (by decide +kernel)) rfl) (lwg (List.mem_of_getElem? (i := 108) (by decide +kernel)) rfl) (lwg (List.mem_of_getElem? (i := 77) (by decide +kernel)) rfl) (lwg (List.mem_of_getElem? (i := 109) (by decide +kernel)) rfl) ⟨rfl, rfl, (Nat.le_of_ble_eq_true rfl), (Nat.le_of_ble_eq_true rfl)⟩ hW (Nat.le_of_ble_eq_true rfl) (Nat.le_of_ble_eq_true rfl) (Nat.le_of_ble_eq_true rfl) dX0_init_58 dX0_init_61 dX0_init_62 dX0_init_65 rfl (fun E6 M6 p4_0 h hG hKp aN e4_0 heo m4_0 hmo k4_0 hqn hz hWn => ?_)
  have hthne : th ≠ q4 := fun z => hKo_ne4 z.symm
  have hko := ((hKp th hKo.1).2.2.2 hthne).1
  have hK := hKp.K hKo
  have f1 := (hko 1).trans f1
  have a1 := hKp.A a1
  have f2 := (hko 2).trans f2
  have a2 := hKp.A a2
  have z3 := St0_k _ _ _ _ q4 _ hWc a3 (by rw [a4_o.2.1]; omega) hKp z3
  have f3 := (hko 3).trans f3
  have a3 := hKp.K a3
  have f4 := (hko 4).trans f4
  have a4 := aN
  have t4_1 := (heo 1 (by decide)).trans t4_1
  have t4_2 := (heo 2 (by decide)).trans t4_2
  have t4_3 := (heo 3 (by decide)).trans t4_3
  have t4_4 := (heo 4 (by decide)).trans t4_4
  have t4_5 := (heo 5 (by decide)).trans t4_5
  have t4_6 := (heo 6 (by decide)).trans t4_6
  have t4_7 := (heo 7 (by decide)).trans t4_7
  have n6 := (hko 6).trans n6
  have n7 := (hko 7).trans n7
  have n8 := (hko 8).trans n8
  have n9 := (hko 9).trans n9
  have n10 := (hko 10).trans n10
  have i0 := (((hKp th hKo.1).2.2.2 hthne).2.2.1 0).trans i0
  have i5 := (((hKp th hKo.1).2.2.2 hthne).2.2.1 5).trans i5
  refine G_iinc2 h dX0_init_66 rfl ki_1 (by decide) (L' := [some (.ref th), some (.int 1)]) rfl rfl ?_
  refine G_goto h dX0_init_69 (tgt := 47) (by decide) ?_
  refine G_iload_n h dX0_init_47 (i := 1) rfl rfl rfl ?_
  refine G_bipush h dX0_init_48 (v := 8) (by decide) rfl ?_
  refine G_icmp_ge h dX0_init_50 (tgt := 72) (by decide) rfl (fun c => absurd c (by decide)) (fun _ => ?_)
  refine G_aload_n h dX0_init_53 (i := 0) rfl rfl rfl ?_
  refine G_getr h (T := TX0) (N := 11) (ci := 0) (k := 4) rfl inG0 (lwg (List.mem_of_getElem? (i := 190) (by decide +kernel)) rfl) rfl (by decide) rfl (by decide) dX0_init_54 (Or.inr rfl) hK (by rw [rr_of f4]; exact f4) rfl ?_
  rw [rr_of f4]
  refine G_iload_n h dX0_init_57 (i := 1) rfl rfl rfl ?_
  have hWc := hG.2.2.2.2.1 hW
  have hKo := hK
  have a1_o := a1
  have hKo_ne1 : q1 = th → False := fun z => absurd ((congrArg (eK E6) z).symm.trans a1.2.1) (by rw [hK.2]; decide)
  have a2_o := a2
  have hKo_ne2 : q2 = th → False := fun z => absurd ((congrArg (eK E6) z).symm.trans a2.2.1) (by rw [hK.2]; decide)
  have a4_o := a4
  have hKo_ne4 : q4 = th → False := fun z => absurd ((congrArg (eK E6) z).symm.trans a4.2.1) (by rw [hK.2]; decide)
  have hAn : q4 ∉ eL E := fun z => hq4_0 z
  refine G_eltS (E := E) (M := M) (th := th) h hG hth a4 hAn (vi_lit (by decide)) (jx := 1) (by decide) t4_1 (C2 := RX5) (T2 := TX5) (N2 := 5) rfl inG5 tyX5 tyX5_ok (by intro j hj; (rcases (show j = 0 ∨ j = 1 ∨ j = 2 ∨ j = 3 ∨ j = 4 by omega) with rfl | rfl | rfl | rfl | rfl) <;> rfl) (lwg (List.mem_of_getElem? (i := 105) (by decide +kernel)) rfl) (lwg (List.mem_of_getElem? (i := 106) (by decide +kernel)) rfl) (lwg (List.mem_of_getElem? (i := 77) (by decide +kernel)) rfl) (y := yX5_init) (Ini := St0) (fun E2 M2 q a1 a2 a3 a4 a5 => ok_init_X5 l0 a1 a2 a3 a4 a5) St0_k rfl ⟨by decide +kernel, by decide +kernel, by decide +kernel⟩ (lwg (List.mem_of_getElem? (i := 107) (by decide +kernel)) rfl) (lwg (List.mem_of_getElem? (i := 108) (by decide +kernel)) rfl) (lwg (List.mem_of_getElem? (i := 77) (by decide +kernel)) rfl) (lwg (List.mem_of_getElem? (i := 109) (by decide +kernel)) rfl) ⟨rfl, rfl, (Nat.le_of_ble_eq_true rfl), (Nat.le_of_ble_eq_true rfl)⟩ hW (Nat.le_of_ble_eq_true rfl) (Nat.le_of_ble_eq_true rfl) (Nat.le_of_ble_eq_true rfl) dX0_init_58 dX0_init_61 dX0_init_62 dX0_init_65 rfl (fun E7 M7 p4_1 h hG hKp aN e4_1 heo m4_1 hmo k4_1 hqn hz hWn => ?_)
  have hthne : th ≠ q4 := fun z => hKo_ne4 z.symm
  have hko := ((hKp th hKo.1).2.2.2 hthne).1
  have hK := hKp.K hKo
  have f1 := (hko 1).trans f1
  have a1 := hKp.A a1
  have f2 := (hko 2).trans f2
  have a2 := hKp.A a2
  have z3 := St0_k _ _ _ _ q4 _ hWc a3 (by rw [a4_o.2.1]; omega) hKp z3
  have f3 := (hko 3).trans f3
  have a3 := hKp.K a3
  have f4 := (hko 4).trans f4
  have a4 := aN
  have e4_0 := (heo 0 (by decide)).trans e4_0
  have k4_0 := hKp.K k4_0
  have m4_0 := (hmo 0 (by decide)).trans m4_0
  have t4_2 := (heo 2 (by decide)).trans t4_2
  have t4_3 := (heo 3 (by decide)).trans t4_3
  have t4_4 := (heo 4 (by decide)).trans t4_4
  have t4_5 := (heo 5 (by decide)).trans t4_5
  have t4_6 := (heo 6 (by decide)).trans t4_6
  have t4_7 := (heo 7 (by decide)).trans t4_7
  have n6 := (hko 6).trans n6
  have n7 := (hko 7).trans n7
  have n8 := (hko 8).trans n8
  have n9 := (hko 9).trans n9
  have n10 := (hko 10).trans n10
  have i0 := (((hKp th hKo.1).2.2.2 hthne).2.2.1 0).trans i0
  have i5 := (((hKp th hKo.1).2.2.2 hthne).2.2.1 5).trans i5
  refine G_iinc2 h dX0_init_66 rfl ki_1 (by decide) (L' := [some (.ref th), some (.int 2)]) rfl rfl ?_
  refine G_goto h dX0_init_69 (tgt := 47) (by decide) ?_
  refine G_iload_n h dX0_init_47 (i := 1) rfl rfl rfl ?_
  refine G_bipush h dX0_init_48 (v := 8) (by decide) rfl ?_
  refine G_icmp_ge h dX0_init_50 (tgt := 72) (by decide) rfl (fun c => absurd c (by decide)) (fun _ => ?_)
  refine G_aload_n h dX0_init_53 (i := 0) rfl rfl rfl ?_
  refine G_getr h (T := TX0) (N := 11) (ci := 0) (k := 4) rfl inG0 (lwg (List.mem_of_getElem? (i := 190) (by decide +kernel)) rfl) rfl (by decide) rfl (by decide) dX0_init_54 (Or.inr rfl) hK (by rw [rr_of f4]; exact f4) rfl ?_
  rw [rr_of f4]
  refine G_iload_n h dX0_init_57 (i := 1) rfl rfl rfl ?_
  have hWc := hG.2.2.2.2.1 hW
  have hKo := hK
  have a1_o := a1
  have hKo_ne1 : q1 = th → False := fun z => absurd ((congrArg (eK E7) z).symm.trans a1.2.1) (by rw [hK.2]; decide)
  have a2_o := a2
  have hKo_ne2 : q2 = th → False := fun z => absurd ((congrArg (eK E7) z).symm.trans a2.2.1) (by rw [hK.2]; decide)
  have a4_o := a4
  have hKo_ne4 : q4 = th → False := fun z => absurd ((congrArg (eK E7) z).symm.trans a4.2.1) (by rw [hK.2]; decide)
  have hAn : q4 ∉ eL E := fun z => hq4_0 z
  refine G_eltS (E := E) (M := M) (th := th) h hG hth a4 hAn (vi_lit (by decide)) (jx := 2) (by decide) t4_2 (C2 := RX5) (T2 := TX5) (N2 := 5) rfl inG5 tyX5 tyX5_ok (by intro j hj; (rcases (show j = 0 ∨ j = 1 ∨ j = 2 ∨ j = 3 ∨ j = 4 by omega) with rfl | rfl | rfl | rfl | rfl) <;> rfl) (lwg (List.mem_of_getElem? (i := 105) (by decide +kernel)) rfl) (lwg (List.mem_of_getElem? (i := 106) (by decide +kernel)) rfl) (lwg (List.mem_of_getElem? (i := 77) (by decide +kernel)) rfl) (y := yX5_init) (Ini := St0) (fun E2 M2 q a1 a2 a3 a4 a5 => ok_init_X5 l0 a1 a2 a3 a4 a5) St0_k rfl ⟨by decide +kernel, by decide +kernel, by decide +kernel⟩ (lwg (List.mem_of_getElem? (i := 107) (by decide +kernel)) rfl) (lwg (List.mem_of_getElem? (i := 108) (by decide +kernel)) rfl) (lwg (List.mem_of_getElem? (i := 77) (by decide +kernel)) rfl) (lwg (List.mem_of_getElem? (i := 109) (by decide +kernel)) rfl) ⟨rfl, rfl, (Nat.le_of_ble_eq_true rfl), (Nat.le_of_ble_eq_true rfl)⟩ hW (Nat.le_of_ble_eq_true rfl) (Nat.le_of_ble_eq_true rfl) (Nat.le_of_ble_eq_true rfl) dX0_init_58 dX0_init_61 dX0_init_62 dX0_init_65 rfl (fun E8 M8 p4_2 h hG hKp aN e4_2 heo m4_2 hmo k4_2 hqn hz hWn => ?_)
  have hthne : th ≠ q4 := fun z => hKo_ne4 z.symm
  have hko := ((hKp th hKo.1).2.2.2 hthne).1
  have hK := hKp.K hKo
  have f1 := (hko 1).trans f1
  have a1 := hKp.A a1
  have f2 := (hko 2).trans f2
  have a2 := hKp.A a2
  have z3 := St0_k _ _ _ _ q4 _ hWc a3 (by rw [a4_o.2.1]; omega) hKp z3
  have f3 := (hko 3).trans f3
  have a3 := hKp.K a3
  have f4 := (hko 4).trans f4
  have a4 := aN
  have e4_0 := (heo 0 (by decide)).trans e4_0
  have k4_0 := hKp.K k4_0
  have m4_0 := (hmo 0 (by decide)).trans m4_0
  have e4_1 := (heo 1 (by decide)).trans e4_1
  have k4_1 := hKp.K k4_1
  have m4_1 := (hmo 1 (by decide)).trans m4_1
  have t4_3 := (heo 3 (by decide)).trans t4_3
  have t4_4 := (heo 4 (by decide)).trans t4_4
  have t4_5 := (heo 5 (by decide)).trans t4_5
  have t4_6 := (heo 6 (by decide)).trans t4_6
  have t4_7 := (heo 7 (by decide)).trans t4_7
  have n6 := (hko 6).trans n6
  have n7 := (hko 7).trans n7
  have n8 := (hko 8).trans n8
  have n9 := (hko 9).trans n9
  have n10 := (hko 10).trans n10
  have i0 := (((hKp th hKo.1).2.2.2 hthne).2.2.1 0).trans i0
  have i5 := (((hKp th hKo.1).2.2.2 hthne).2.2.1 5).trans i5
  refine G_iinc2 h dX0_init_66 rfl ki_1 (by decide) (L' := [some (.ref th), some (.int 3)]) rfl rfl ?_
  refine G_goto h dX0_init_69 (tgt := 47) (by decide) ?_
  refine G_iload_n h dX0_init_47 (i := 1) rfl rfl rfl ?_
  refine G_bipush h dX0_init_48 (v := 8) (by decide) rfl ?_
  refine G_icmp_ge h dX0_init_50 (tgt := 72) (by decide) rfl (fun c => absurd c (by decide)) (fun _ => ?_)
  refine G_aload_n h dX0_init_53 (i := 0) rfl rfl rfl ?_
  refine G_getr h (T := TX0) (N := 11) (ci := 0) (k := 4) rfl inG0 (lwg (List.mem_of_getElem? (i := 190) (by decide +kernel)) rfl) rfl (by decide) rfl (by decide) dX0_init_54 (Or.inr rfl) hK (by rw [rr_of f4]; exact f4) rfl ?_
  rw [rr_of f4]
  refine G_iload_n h dX0_init_57 (i := 1) rfl rfl rfl ?_
  have hWc := hG.2.2.2.2.1 hW
  have hKo := hK
  have a1_o := a1
  have hKo_ne1 : q1 = th → False := fun z => absurd ((congrArg (eK E8) z).symm.trans a1.2.1) (by rw [hK.2]; decide)
  have a2_o := a2
  have hKo_ne2 : q2 = th → False := fun z => absurd ((congrArg (eK E8) z).symm.trans a2.2.1) (by rw [hK.2]; decide)
  have a4_o := a4
  have hKo_ne4 : q4 = th → False := fun z => absurd ((congrArg (eK E8) z).symm.trans a4.2.1) (by rw [hK.2]; decide)
  have hAn : q4 ∉ eL E := fun z => hq4_0 z
  refine G_eltS (E := E) (M := M) (th := th) h hG hth a4 hAn (vi_lit (by decide)) (jx := 3) (by decide) t4_3 (C2 := RX5) (T2 := TX5) (N2 := 5) rfl inG5 tyX5 tyX5_ok (by intro j hj; (rcases (show j = 0 ∨ j = 1 ∨ j = 2 ∨ j = 3 ∨ j = 4 by omega) with rfl | rfl | rfl | rfl | rfl) <;> rfl) (lwg (List.mem_of_getElem? (i := 105) (by decide +kernel)) rfl) (lwg (List.mem_of_getElem? (i := 106) (by decide +kernel)) rfl) (lwg (List.mem_of_getElem? (i := 77) (by decide +kernel)) rfl) (y := yX5_init) (Ini := St0) (fun E2 M2 q a1 a2 a3 a4 a5 => ok_init_X5 l0 a1 a2 a3 a4 a5) St0_k rfl ⟨by decide +kernel, by decide +kernel, by decide +kernel⟩ (lwg (List.mem_of_getElem? (i := 107) (by decide +kernel)) rfl) (lwg (List.mem_of_getElem? (i := 108) (by decide +kernel)) rfl) (lwg (List.mem_of_getElem? (i := 77) (by decide +kernel)) rfl) (lwg (List.mem_of_getElem? (i := 109) (by decide +kernel)) rfl) ⟨rfl, rfl, (Nat.le_of_ble_eq_true rfl), (Nat.le_of_ble_eq_true rfl)⟩ hW (Nat.le_of_ble_eq_true rfl) (Nat.le_of_ble_eq_true rfl) (Nat.le_of_ble_eq_true rfl) dX0_init_58 dX0_init_61 dX0_init_62 dX0_init_65 rfl (fun E9 M9 p4_3 h hG hKp aN e4_3 heo m4_3 hmo k4_3 hqn hz hWn => ?_)
  have hthne : th ≠ q4 := fun z => hKo_ne4 z.symm
  have hko := ((hKp th hKo.1).2.2.2 hthne).1
  have hK := hKp.K hKo
  have f1 := (hko 1).trans f1
  have a1 := hKp.A a1
  have f2 := (hko 2).trans f2
  have a2 := hKp.A a2
  have z3 := St0_k _ _ _ _ q4 _ hWc a3 (by rw [a4_o.2.1]; omega) hKp z3
  have f3 := (hko 3).trans f3
  have a3 := hKp.K a3
  have f4 := (hko 4).trans f4
  have a4 := aN
  have e4_0 := (heo 0 (by decide)).trans e4_0
  have k4_0 := hKp.K k4_0
  have m4_0 := (hmo 0 (by decide)).trans m4_0
  have e4_1 := (heo 1 (by decide)).trans e4_1
  have k4_1 := hKp.K k4_1
  have m4_1 := (hmo 1 (by decide)).trans m4_1
  have e4_2 := (heo 2 (by decide)).trans e4_2
  have k4_2 := hKp.K k4_2
  have m4_2 := (hmo 2 (by decide)).trans m4_2
  have t4_4 := (heo 4 (by decide)).trans t4_4
  have t4_5 := (heo 5 (by decide)).trans t4_5
  have t4_6 := (heo 6 (by decide)).trans t4_6
  have t4_7 := (heo 7 (by decide)).trans t4_7
  have n6 := (hko 6).trans n6
  have n7 := (hko 7).trans n7
  have n8 := (hko 8).trans n8
  have n9 := (hko 9).trans n9
  have n10 := (hko 10).trans n10
  have i0 := (((hKp th hKo.1).2.2.2 hthne).2.2.1 0).trans i0
  have i5 := (((hKp th hKo.1).2.2.2 hthne).2.2.1 5).trans i5
  refine G_iinc2 h dX0_init_66 rfl ki_1 (by decide) (L' := [some (.ref th), some (.int 4)]) rfl rfl ?_
  refine G_goto h dX0_init_69 (tgt := 47) (by decide) ?_
  refine G_iload_n h dX0_init_47 (i := 1) rfl rfl rfl ?_
  refine G_bipush h dX0_init_48 (v := 8) (by decide) rfl ?_
  refine G_icmp_ge h dX0_init_50 (tgt := 72) (by decide) rfl (fun c => absurd c (by decide)) (fun _ => ?_)
  refine G_aload_n h dX0_init_53 (i := 0) rfl rfl rfl ?_
  refine G_getr h (T := TX0) (N := 11) (ci := 0) (k := 4) rfl inG0 (lwg (List.mem_of_getElem? (i := 190) (by decide +kernel)) rfl) rfl (by decide) rfl (by decide) dX0_init_54 (Or.inr rfl) hK (by rw [rr_of f4]; exact f4) rfl ?_
  rw [rr_of f4]
  refine G_iload_n h dX0_init_57 (i := 1) rfl rfl rfl ?_
  have hWc := hG.2.2.2.2.1 hW
  have hKo := hK
  have a1_o := a1
  have hKo_ne1 : q1 = th → False := fun z => absurd ((congrArg (eK E9) z).symm.trans a1.2.1) (by rw [hK.2]; decide)
  have a2_o := a2
  have hKo_ne2 : q2 = th → False := fun z => absurd ((congrArg (eK E9) z).symm.trans a2.2.1) (by rw [hK.2]; decide)
  have a4_o := a4
  have hKo_ne4 : q4 = th → False := fun z => absurd ((congrArg (eK E9) z).symm.trans a4.2.1) (by rw [hK.2]; decide)
  have hAn : q4 ∉ eL E := fun z => hq4_0 z
  refine G_eltS (E := E) (M := M) (th := th) h hG hth a4 hAn (vi_lit (by decide)) (jx := 4) (by decide) t4_4 (C2 := RX5) (T2 := TX5) (N2 := 5) rfl inG5 tyX5 tyX5_ok (by intro j hj; (rcases (show j = 0 ∨ j = 1 ∨ j = 2 ∨ j = 3 ∨ j = 4 by omega) with rfl | rfl | rfl | rfl | rfl) <;> rfl) (lwg (List.mem_of_getElem? (i := 105) (by decide +kernel)) rfl) (lwg (List.mem_of_getElem? (i := 106) (by decide +kernel)) rfl) (lwg (List.mem_of_getElem? (i := 77) (by decide +kernel)) rfl) (y := yX5_init) (Ini := St0) (fun E2 M2 q a1 a2 a3 a4 a5 => ok_init_X5 l0 a1 a2 a3 a4 a5) St0_k rfl ⟨by decide +kernel, by decide +kernel, by decide +kernel⟩ (lwg (List.mem_of_getElem? (i := 107) (by decide +kernel)) rfl) (lwg (List.mem_of_getElem? (i := 108) (by decide +kernel)) rfl) (lwg (List.mem_of_getElem? (i := 77) (by decide +kernel)) rfl) (lwg (List.mem_of_getElem? (i := 109) (by decide +kernel)) rfl) ⟨rfl, rfl, (Nat.le_of_ble_eq_true rfl), (Nat.le_of_ble_eq_true rfl)⟩ hW (Nat.le_of_ble_eq_true rfl) (Nat.le_of_ble_eq_true rfl) (Nat.le_of_ble_eq_true rfl) dX0_init_58 dX0_init_61 dX0_init_62 dX0_init_65 rfl (fun E10 M10 p4_4 h hG hKp aN e4_4 heo m4_4 hmo k4_4 hqn hz hWn => ?_)
  have hthne : th ≠ q4 := fun z => hKo_ne4 z.symm
  have hko := ((hKp th hKo.1).2.2.2 hthne).1
  have hK := hKp.K hKo
  have f1 := (hko 1).trans f1
  have a1 := hKp.A a1
  have f2 := (hko 2).trans f2
  have a2 := hKp.A a2
  have z3 := St0_k _ _ _ _ q4 _ hWc a3 (by rw [a4_o.2.1]; omega) hKp z3
  have f3 := (hko 3).trans f3
  have a3 := hKp.K a3
  have f4 := (hko 4).trans f4
  have a4 := aN
  have e4_0 := (heo 0 (by decide)).trans e4_0
  have k4_0 := hKp.K k4_0
  have m4_0 := (hmo 0 (by decide)).trans m4_0
  have e4_1 := (heo 1 (by decide)).trans e4_1
  have k4_1 := hKp.K k4_1
  have m4_1 := (hmo 1 (by decide)).trans m4_1
  have e4_2 := (heo 2 (by decide)).trans e4_2
  have k4_2 := hKp.K k4_2
  have m4_2 := (hmo 2 (by decide)).trans m4_2
  have e4_3 := (heo 3 (by decide)).trans e4_3
  have k4_3 := hKp.K k4_3
  have m4_3 := (hmo 3 (by decide)).trans m4_3
  have t4_5 := (heo 5 (by decide)).trans t4_5
  have t4_6 := (heo 6 (by decide)).trans t4_6
  have t4_7 := (heo 7 (by decide)).trans t4_7
  have n6 := (hko 6).trans n6
  have n7 := (hko 7).trans n7
  have n8 := (hko 8).trans n8
  have n9 := (hko 9).trans n9
  have n10 := (hko 10).trans n10
  have i0 := (((hKp th hKo.1).2.2.2 hthne).2.2.1 0).trans i0
  have i5 := (((hKp th hKo.1).2.2.2 hthne).2.2.1 5).trans i5
  refine G_iinc2 h dX0_init_66 rfl ki_1 (by decide) (L' := [some (.ref th), some (.int 5)]) rfl rfl ?_
  refine G_goto h dX0_init_69 (tgt := 47) (by decide) ?_
  refine G_iload_n h dX0_init_47 (i := 1) rfl rfl rfl ?_
  refine G_bipush h dX0_init_48 (v := 8) (by decide) rfl ?_
  refine G_icmp_ge h dX0_init_50 (tgt := 72) (by decide) rfl (fun c => absurd c (by decide)) (fun _ => ?_)
  refine G_aload_n h dX0_init_53 (i := 0) rfl rfl rfl ?_
  refine G_getr h (T := TX0) (N := 11) (ci := 0) (k := 4) rfl inG0 (lwg (List.mem_of_getElem? (i := 190) (by decide +kernel)) rfl) rfl (by decide) rfl (by decide) dX0_init_54 (Or.inr rfl) hK (by rw [rr_of f4]; exact f4) rfl ?_
  rw [rr_of f4]
  refine G_iload_n h dX0_init_57 (i := 1) rfl rfl rfl ?_
  have hWc := hG.2.2.2.2.1 hW
  have hKo := hK
  have a1_o := a1
  have hKo_ne1 : q1 = th → False := fun z => absurd ((congrArg (eK E10) z).symm.trans a1.2.1) (by rw [hK.2]; decide)
  have a2_o := a2
  have hKo_ne2 : q2 = th → False := fun z => absurd ((congrArg (eK E10) z).symm.trans a2.2.1) (by rw [hK.2]; decide)
  have a4_o := a4
  have hKo_ne4 : q4 = th → False := fun z => absurd ((congrArg (eK E10) z).symm.trans a4.2.1) (by rw [hK.2]; decide)
  have hAn : q4 ∉ eL E := fun z => hq4_0 z
  refine G_eltS (E := E) (M := M) (th := th) h hG hth a4 hAn (vi_lit (by decide)) (jx := 5) (by decide) t4_5 (C2 := RX5) (T2 := TX5) (N2 := 5) rfl inG5 tyX5 tyX5_ok (by intro j hj; (rcases (show j = 0 ∨ j = 1 ∨ j = 2 ∨ j = 3 ∨ j = 4 by omega) with rfl | rfl | rfl | rfl | rfl) <;> rfl) (lwg (List.mem_of_getElem? (i := 105) (by decide +kernel)) rfl) (lwg (List.mem_of_getElem? (i := 106) (by decide +kernel)) rfl) (lwg (List.mem_of_getElem? (i := 77) (by decide +kernel)) rfl) (y := yX5_init) (Ini := St0) (fun E2 M2 q a1 a2 a3 a4 a5 => ok_init_X5 l0 a1 a2 a3 a4 a5) St0_k rfl ⟨by decide +kernel, by decide +kernel, by decide +kernel⟩ (lwg (List.mem_of_getElem? (i := 107) (by decide +kernel)) rfl) (lwg (List.mem_of_getElem? (i := 108) (by decide +kernel)) rfl) (lwg (List.mem_of_getElem? (i := 77) (by decide +kernel)) rfl) (lwg (List.mem_of_getElem? (i := 109) (by decide +kernel)) rfl) ⟨rfl, rfl, (Nat.le_of_ble_eq_true rfl), (Nat.le_of_ble_eq_true rfl)⟩ hW (Nat.le_of_ble_eq_true rfl) (Nat.le_of_ble_eq_true rfl) (Nat.le_of_ble_eq_true rfl) dX0_init_58 dX0_init_61 dX0_init_62 dX0_init_65 rfl (fun E11 M11 p4_5 h hG hKp aN e4_5 heo m4_5 hmo k4_5 hqn hz hWn => ?_)
  have hthne : th ≠ q4 := fun z => hKo_ne4 z.symm
  have hko := ((hKp th hKo.1).2.2.2 hthne).1
  have hK := hKp.K hKo
  have f1 := (hko 1).trans f1
  have a1 := hKp.A a1
  have f2 := (hko 2).trans f2
  have a2 := hKp.A a2
  have z3 := St0_k _ _ _ _ q4 _ hWc a3 (by rw [a4_o.2.1]; omega) hKp z3
  have f3 := (hko 3).trans f3
  have a3 := hKp.K a3
  have f4 := (hko 4).trans f4
  have a4 := aN
  have e4_0 := (heo 0 (by decide)).trans e4_0
  have k4_0 := hKp.K k4_0
  have m4_0 := (hmo 0 (by decide)).trans m4_0
  have e4_1 := (heo 1 (by decide)).trans e4_1
  have k4_1 := hKp.K k4_1
  have m4_1 := (hmo 1 (by decide)).trans m4_1
  have e4_2 := (heo 2 (by decide)).trans e4_2
  have k4_2 := hKp.K k4_2
  have m4_2 := (hmo 2 (by decide)).trans m4_2
  have e4_3 := (heo 3 (by decide)).trans e4_3
  have k4_3 := hKp.K k4_3
  have m4_3 := (hmo 3 (by decide)).trans m4_3
  have e4_4 := (heo 4 (by decide)).trans e4_4
  have k4_4 := hKp.K k4_4
  have m4_4 := (hmo 4 (by decide)).trans m4_4
  have t4_6 := (heo 6 (by decide)).trans t4_6
  have t4_7 := (heo 7 (by decide)).trans t4_7
  have n6 := (hko 6).trans n6
  have n7 := (hko 7).trans n7
  have n8 := (hko 8).trans n8
  have n9 := (hko 9).trans n9
  have n10 := (hko 10).trans n10
  have i0 := (((hKp th hKo.1).2.2.2 hthne).2.2.1 0).trans i0
  have i5 := (((hKp th hKo.1).2.2.2 hthne).2.2.1 5).trans i5
  refine G_iinc2 h dX0_init_66 rfl ki_1 (by decide) (L' := [some (.ref th), some (.int 6)]) rfl rfl ?_
  refine G_goto h dX0_init_69 (tgt := 47) (by decide) ?_
  refine G_iload_n h dX0_init_47 (i := 1) rfl rfl rfl ?_
  refine G_bipush h dX0_init_48 (v := 8) (by decide) rfl ?_
  refine G_icmp_ge h dX0_init_50 (tgt := 72) (by decide) rfl (fun c => absurd c (by decide)) (fun _ => ?_)
  refine G_aload_n h dX0_init_53 (i := 0) rfl rfl rfl ?_
  refine G_getr h (T := TX0) (N := 11) (ci := 0) (k := 4) rfl inG0 (lwg (List.mem_of_getElem? (i := 190) (by decide +kernel)) rfl) rfl (by decide) rfl (by decide) dX0_init_54 (Or.inr rfl) hK (by rw [rr_of f4]; exact f4) rfl ?_
  rw [rr_of f4]
  refine G_iload_n h dX0_init_57 (i := 1) rfl rfl rfl ?_
  have hWc := hG.2.2.2.2.1 hW
  have hKo := hK
  have a1_o := a1
  have hKo_ne1 : q1 = th → False := fun z => absurd ((congrArg (eK E11) z).symm.trans a1.2.1) (by rw [hK.2]; decide)
  have a2_o := a2
  have hKo_ne2 : q2 = th → False := fun z => absurd ((congrArg (eK E11) z).symm.trans a2.2.1) (by rw [hK.2]; decide)
  have a4_o := a4
  have hKo_ne4 : q4 = th → False := fun z => absurd ((congrArg (eK E11) z).symm.trans a4.2.1) (by rw [hK.2]; decide)
  have hAn : q4 ∉ eL E := fun z => hq4_0 z
  refine G_eltS (E := E) (M := M) (th := th) h hG hth a4 hAn (vi_lit (by decide)) (jx := 6) (by decide) t4_6 (C2 := RX5) (T2 := TX5) (N2 := 5) rfl inG5 tyX5 tyX5_ok (by intro j hj; (rcases (show j = 0 ∨ j = 1 ∨ j = 2 ∨ j = 3 ∨ j = 4 by omega) with rfl | rfl | rfl | rfl | rfl) <;> rfl) (lwg (List.mem_of_getElem? (i := 105) (by decide +kernel)) rfl) (lwg (List.mem_of_getElem? (i := 106) (by decide +kernel)) rfl) (lwg (List.mem_of_getElem? (i := 77) (by decide +kernel)) rfl) (y := yX5_init) (Ini := St0) (fun E2 M2 q a1 a2 a3 a4 a5 => ok_init_X5 l0 a1 a2 a3 a4 a5) St0_k rfl ⟨by decide +kernel, by decide +kernel, by decide +kernel⟩ (lwg (List.mem_of_getElem? (i := 107) (by decide +kernel)) rfl) (lwg (List.mem_of_getElem? (i := 108) (by decide +kernel)) rfl) (lwg (List.mem_of_getElem? (i := 77) (by decide +kernel)) rfl) (lwg (List.mem_of_getElem? (i := 109) (by decide +kernel)) rfl) ⟨rfl, rfl, (Nat.le_of_ble_eq_true rfl), (Nat.le_of_ble_eq_true rfl)⟩ hW (Nat.le_of_ble_eq_true rfl) (Nat.le_of_ble_eq_true rfl) (Nat.le_of_ble_eq_true rfl) dX0_init_58 dX0_init_61 dX0_init_62 dX0_init_65 rfl (fun E12 M12 p4_6 h hG hKp aN e4_6 heo m4_6 hmo k4_6 hqn hz hWn => ?_)
  have hthne : th ≠ q4 := fun z => hKo_ne4 z.symm
  have hko := ((hKp th hKo.1).2.2.2 hthne).1
  have hK := hKp.K hKo
  have f1 := (hko 1).trans f1
  have a1 := hKp.A a1
  have f2 := (hko 2).trans f2
  have a2 := hKp.A a2
  have z3 := St0_k _ _ _ _ q4 _ hWc a3 (by rw [a4_o.2.1]; omega) hKp z3
  have f3 := (hko 3).trans f3
  have a3 := hKp.K a3
  have f4 := (hko 4).trans f4
  have a4 := aN
  have e4_0 := (heo 0 (by decide)).trans e4_0
  have k4_0 := hKp.K k4_0
  have m4_0 := (hmo 0 (by decide)).trans m4_0
  have e4_1 := (heo 1 (by decide)).trans e4_1
  have k4_1 := hKp.K k4_1
  have m4_1 := (hmo 1 (by decide)).trans m4_1
  have e4_2 := (heo 2 (by decide)).trans e4_2
  have k4_2 := hKp.K k4_2
  have m4_2 := (hmo 2 (by decide)).trans m4_2
  have e4_3 := (heo 3 (by decide)).trans e4_3
  have k4_3 := hKp.K k4_3
  have m4_3 := (hmo 3 (by decide)).trans m4_3
  have e4_4 := (heo 4 (by decide)).trans e4_4
  have k4_4 := hKp.K k4_4
  have m4_4 := (hmo 4 (by decide)).trans m4_4
  have e4_5 := (heo 5 (by decide)).trans e4_5
  have k4_5 := hKp.K k4_5
  have m4_5 := (hmo 5 (by decide)).trans m4_5
  have t4_7 := (heo 7 (by decide)).trans t4_7
  have n6 := (hko 6).trans n6
  have n7 := (hko 7).trans n7
  have n8 := (hko 8).trans n8
  have n9 := (hko 9).trans n9
  have n10 := (hko 10).trans n10
  have i0 := (((hKp th hKo.1).2.2.2 hthne).2.2.1 0).trans i0
  have i5 := (((hKp th hKo.1).2.2.2 hthne).2.2.1 5).trans i5
  refine G_iinc2 h dX0_init_66 rfl ki_1 (by decide) (L' := [some (.ref th), some (.int 7)]) rfl rfl ?_
  refine G_goto h dX0_init_69 (tgt := 47) (by decide) ?_
  refine G_iload_n h dX0_init_47 (i := 1) rfl rfl rfl ?_
  refine G_bipush h dX0_init_48 (v := 8) (by decide) rfl ?_
  refine G_icmp_ge h dX0_init_50 (tgt := 72) (by decide) rfl (fun c => absurd c (by decide)) (fun _ => ?_)
  refine G_aload_n h dX0_init_53 (i := 0) rfl rfl rfl ?_
  refine G_getr h (T := TX0) (N := 11) (ci := 0) (k := 4) rfl inG0 (lwg (List.mem_of_getElem? (i := 190) (by decide +kernel)) rfl) rfl (by decide) rfl (by decide) dX0_init_54 (Or.inr rfl) hK (by rw [rr_of f4]; exact f4) rfl ?_
  rw [rr_of f4]
  refine G_iload_n h dX0_init_57 (i := 1) rfl rfl rfl ?_
  have hWc := hG.2.2.2.2.1 hW
  have hKo := hK
  have a1_o := a1
  have hKo_ne1 : q1 = th → False := fun z => absurd ((congrArg (eK E12) z).symm.trans a1.2.1) (by rw [hK.2]; decide)
  have a2_o := a2
  have hKo_ne2 : q2 = th → False := fun z => absurd ((congrArg (eK E12) z).symm.trans a2.2.1) (by rw [hK.2]; decide)
  have a4_o := a4
  have hKo_ne4 : q4 = th → False := fun z => absurd ((congrArg (eK E12) z).symm.trans a4.2.1) (by rw [hK.2]; decide)
  have hAn : q4 ∉ eL E := fun z => hq4_0 z
  refine G_eltS (E := E) (M := M) (th := th) h hG hth a4 hAn (vi_lit (by decide)) (jx := 7) (by decide) t4_7 (C2 := RX5) (T2 := TX5) (N2 := 5) rfl inG5 tyX5 tyX5_ok (by intro j hj; (rcases (show j = 0 ∨ j = 1 ∨ j = 2 ∨ j = 3 ∨ j = 4 by omega) with rfl | rfl | rfl | rfl | rfl) <;> rfl) (lwg (List.mem_of_getElem? (i := 105) (by decide +kernel)) rfl) (lwg (List.mem_of_getElem? (i := 106) (by decide +kernel)) rfl) (lwg (List.mem_of_getElem? (i := 77) (by decide +kernel)) rfl) (y := yX5_init) (Ini := St0) (fun E2 M2 q a1 a2 a3 a4 a5 => ok_init_X5 l0 a1 a2 a3 a4 a5) St0_k rfl ⟨by decide +kernel, by decide +kernel, by decide +kernel⟩ (lwg (List.mem_of_getElem? (i := 107) (by decide +kernel)) rfl) (lwg (List.mem_of_getElem? (i := 108) (by decide +kernel)) rfl) (lwg (List.mem_of_getElem? (i := 77) (by decide +kernel)) rfl) (lwg (List.mem_of_getElem? (i := 109) (by decide +kernel)) rfl) ⟨rfl, rfl, (Nat.le_of_ble_eq_true rfl), (Nat.le_of_ble_eq_true rfl)⟩ hW (Nat.le_of_ble_eq_true rfl) (Nat.le_of_ble_eq_true rfl) (Nat.le_of_ble_eq_true rfl) dX0_init_58 dX0_init_61 dX0_init_62 dX0_init_65 rfl (fun E13 M13 p4_7 h hG hKp aN e4_7 heo m4_7 hmo k4_7 hqn hz hWn => ?_)
  have hthne : th ≠ q4 := fun z => hKo_ne4 z.symm
  have hko := ((hKp th hKo.1).2.2.2 hthne).1
  have hK := hKp.K hKo
  have f1 := (hko 1).trans f1
  have a1 := hKp.A a1
  have f2 := (hko 2).trans f2
  have a2 := hKp.A a2
  have z3 := St0_k _ _ _ _ q4 _ hWc a3 (by rw [a4_o.2.1]; omega) hKp z3
  have f3 := (hko 3).trans f3
  have a3 := hKp.K a3
  have f4 := (hko 4).trans f4
  have a4 := aN
  have e4_0 := (heo 0 (by decide)).trans e4_0
  have k4_0 := hKp.K k4_0
  have m4_0 := (hmo 0 (by decide)).trans m4_0
  have e4_1 := (heo 1 (by decide)).trans e4_1
  have k4_1 := hKp.K k4_1
  have m4_1 := (hmo 1 (by decide)).trans m4_1
  have e4_2 := (heo 2 (by decide)).trans e4_2
  have k4_2 := hKp.K k4_2
  have m4_2 := (hmo 2 (by decide)).trans m4_2
  have e4_3 := (heo 3 (by decide)).trans e4_3
  have k4_3 := hKp.K k4_3
  have m4_3 := (hmo 3 (by decide)).trans m4_3
  have e4_4 := (heo 4 (by decide)).trans e4_4
  have k4_4 := hKp.K k4_4
  have m4_4 := (hmo 4 (by decide)).trans m4_4
  have e4_5 := (heo 5 (by decide)).trans e4_5
  have k4_5 := hKp.K k4_5
  have m4_5 := (hmo 5 (by decide)).trans m4_5
  have e4_6 := (heo 6 (by decide)).trans e4_6
  have k4_6 := hKp.K k4_6
  have m4_6 := (hmo 6 (by decide)).trans m4_6
  have n6 := (hko 6).trans n6
  have n7 := (hko 7).trans n7
  have n8 := (hko 8).trans n8
  have n9 := (hko 9).trans n9
  have n10 := (hko 10).trans n10
  have i0 := (((hKp th hKo.1).2.2.2 hthne).2.2.1 0).trans i0
  have i5 := (((hKp th hKo.1).2.2.2 hthne).2.2.1 5).trans i5
  refine G_iinc2 h dX0_init_66 rfl ki_1 (by decide) (L' := [some (.ref th), some (.int 8)]) rfl rfl ?_
  refine G_goto h dX0_init_69 (tgt := 47) (by decide) ?_
  refine G_iload_n h dX0_init_47 (i := 1) rfl rfl rfl ?_
  refine G_bipush h dX0_init_48 (v := 8) (by decide) rfl ?_
  refine G_icmp_ge h dX0_init_50 (tgt := 72) (by decide) rfl (fun _ => ?_) (fun c => absurd (by decide) c)
  refine G_aload_n h dX0_init_72 (i := 0) rfl rfl rfl ?_
  refine G_iconst h dX0_init_73 (v := 0) (by decide) rfl ?_
  have hWc := hG.2.2.2.2.1 hW
  have hKo := hK
  have a1_o := a1
  have hKo_ne1 : q1 = th → False := fun z => absurd ((congrArg (eK E13) z).symm.trans a1.2.1) (by rw [hK.2]; decide)
  have a2_o := a2
  have hKo_ne2 : q2 = th → False := fun z => absurd ((congrArg (eK E13) z).symm.trans a2.2.1) (by rw [hK.2]; decide)
  have a4_o := a4
  have hKo_ne4 : q4 = th → False := fun z => absurd ((congrArg (eK E13) z).symm.trans a4.2.1) (by rw [hK.2]; decide)
  refine G_puti h (T := TX0) (N := 11) (ci := 0) (k := 5) rfl inG0 (lwg (List.mem_of_getElem? (i := 191) (by decide +kernel)) rfl) rfl (by decide) rfl (by decide) tyX0 tyX0_ok nmX0 rfl rfl dX0_init_74 (Or.inr rfl) hK rfl ?_
  obtain ⟨M14, hM14⟩ : ∃ z, z = wi M13 th 5 (0 : Int32) := ⟨_, rfl⟩
  rw [← hM14]
  have hG : Gr E M E13 M14 th := by rw [hM14]; exact gr_wi hG
  have hKp : Keep E13 M13 E13 M14 th := by rw [hM14]; exact keep_wi
  have z3 := St0_k _ _ _ _ th _ hWc a3 (by rw [hKo.2]; omega) hKp z3
  have m4_0 := (((hKp _ a4_o.1).2.2.2 (fun z => hKo_ne4 z)).2.1 0).trans m4_0
  have m4_1 := (((hKp _ a4_o.1).2.2.2 (fun z => hKo_ne4 z)).2.1 1).trans m4_1
  have m4_2 := (((hKp _ a4_o.1).2.2.2 (fun z => hKo_ne4 z)).2.1 2).trans m4_2
  have m4_3 := (((hKp _ a4_o.1).2.2.2 (fun z => hKo_ne4 z)).2.1 3).trans m4_3
  have m4_4 := (((hKp _ a4_o.1).2.2.2 (fun z => hKo_ne4 z)).2.1 4).trans m4_4
  have m4_5 := (((hKp _ a4_o.1).2.2.2 (fun z => hKo_ne4 z)).2.1 5).trans m4_5
  have m4_6 := (((hKp _ a4_o.1).2.2.2 (fun z => hKo_ne4 z)).2.1 6).trans m4_6
  have m4_7 := (((hKp _ a4_o.1).2.2.2 (fun z => hKo_ne4 z)).2.1 7).trans m4_7
  have i0 := (show mi M14 th 0 = mi M13 th 0 by rw [hM14]; rw [mi_wi]; exact if_neg (fun z => absurd z.2 (by decide))).trans i0
  have i5 : mi M14 th 5 = (0 : Int32) := by rw [hM14, mi_wi]; exact if_pos ⟨rfl, rfl⟩
  refine G_aload_n h dX0_init_77 (i := 0) rfl rfl rfl ?_
  have hWc := hG.2.2.2.2.1 hW
  have hKo := hK
  have a1_o := a1
  have hKo_ne1 : q1 = th → False := fun z => absurd ((congrArg (eK E13) z).symm.trans a1.2.1) (by rw [hK.2]; decide)
  have a2_o := a2
  have hKo_ne2 : q2 = th → False := fun z => absurd ((congrArg (eK E13) z).symm.trans a2.2.1) (by rw [hK.2]; decide)
  have a4_o := a4
  have hKo_ne4 : q4 = th → False := fun z => absurd ((congrArg (eK E13) z).symm.trans a4.2.1) (by rw [hK.2]; decide)
  refine G_fldO (T := TX0) (N := 11) (ci := 0) (k := 6) rfl inG0 (lwg (List.mem_of_getElem? (i := 193) (by decide +kernel)) rfl) rfl (by decide) rfl (by decide) tyX0 tyX0_ok nmX0 rfl rfl (fun _ => rfl) (fun _ => rfl) h hI hG hth hK n6 (C2 := RX4) (T2 := TX4) (N2 := 2) (c2 := 3) rfl (by decide) inG4 tyX4 tyX4_ok (by intro j hj; (rcases (show j = 0 ∨ j = 1 by omega) with rfl | rfl) <;> rfl) (lwg (List.mem_of_getElem? (i := 146) (by decide +kernel)) rfl) (lwg (List.mem_of_getElem? (i := 147) (by decide +kernel)) rfl) (lwg (List.mem_of_getElem? (i := 78) (by decide +kernel)) rfl) (y := yX4_init) (Ini := Rw0) (fun E2 M2 q a1 a2 a3 a4 a5 => ok_init_X4 l0 a1 a2 a3 a4 a5) Rw0_k rfl ⟨by decide +kernel, by decide +kernel, by decide +kernel⟩ (lwg (List.mem_of_getElem? (i := 148) (by decide +kernel)) rfl) (lwg (List.mem_of_getElem? (i := 149) (by decide +kernel)) rfl) (lwg (List.mem_of_getElem? (i := 78) (by decide +kernel)) rfl) (lwg (List.mem_of_getElem? (i := 150) (by decide +kernel)) rfl) ⟨rfl, rfl, (Nat.le_of_ble_eq_true rfl), (Nat.le_of_ble_eq_true rfl)⟩ hW (Nat.le_of_ble_eq_true rfl) (Nat.le_of_ble_eq_true rfl) (Nat.le_of_ble_eq_true rfl) dX0_init_78 dX0_init_81 dX0_init_82 dX0_init_85 rfl (fun E15 M15 q6 h hG hKp hkp hK f6 hko a6 hq6 z6 hW6 => ?_)
  have f1 := (hko 1 (by decide)).trans f1
  have a1 := hKp.A a1
  have f2 := (hko 2 (by decide)).trans f2
  have a2 := hKp.A a2
  have z3 := St0_k _ _ _ _ th _ hWc a3 (by rw [hKo.2]; omega) hKp z3
  have f3 := (hko 3 (by decide)).trans f3
  have a3 := hKp.K a3
  have f4 := (hko 4 (by decide)).trans f4
  have a4 := hKp.A a4
  have e4_0 := (((hKp _ a4_o.1).2.2.2 (fun z => hKo_ne4 z)).1 0).trans e4_0
  have k4_0 := hKp.K k4_0
  have m4_0 := (((hKp _ a4_o.1).2.2.2 (fun z => hKo_ne4 z)).2.1 0).trans m4_0
  have e4_1 := (((hKp _ a4_o.1).2.2.2 (fun z => hKo_ne4 z)).1 1).trans e4_1
  have k4_1 := hKp.K k4_1
  have m4_1 := (((hKp _ a4_o.1).2.2.2 (fun z => hKo_ne4 z)).2.1 1).trans m4_1
  have e4_2 := (((hKp _ a4_o.1).2.2.2 (fun z => hKo_ne4 z)).1 2).trans e4_2
  have k4_2 := hKp.K k4_2
  have m4_2 := (((hKp _ a4_o.1).2.2.2 (fun z => hKo_ne4 z)).2.1 2).trans m4_2
  have e4_3 := (((hKp _ a4_o.1).2.2.2 (fun z => hKo_ne4 z)).1 3).trans e4_3
  have k4_3 := hKp.K k4_3
  have m4_3 := (((hKp _ a4_o.1).2.2.2 (fun z => hKo_ne4 z)).2.1 3).trans m4_3
  have e4_4 := (((hKp _ a4_o.1).2.2.2 (fun z => hKo_ne4 z)).1 4).trans e4_4
  have k4_4 := hKp.K k4_4
  have m4_4 := (((hKp _ a4_o.1).2.2.2 (fun z => hKo_ne4 z)).2.1 4).trans m4_4
  have e4_5 := (((hKp _ a4_o.1).2.2.2 (fun z => hKo_ne4 z)).1 5).trans e4_5
  have k4_5 := hKp.K k4_5
  have m4_5 := (((hKp _ a4_o.1).2.2.2 (fun z => hKo_ne4 z)).2.1 5).trans m4_5
  have e4_6 := (((hKp _ a4_o.1).2.2.2 (fun z => hKo_ne4 z)).1 6).trans e4_6
  have k4_6 := hKp.K k4_6
  have m4_6 := (((hKp _ a4_o.1).2.2.2 (fun z => hKo_ne4 z)).2.1 6).trans m4_6
  have e4_7 := (((hKp _ a4_o.1).2.2.2 (fun z => hKo_ne4 z)).1 7).trans e4_7
  have k4_7 := hKp.K k4_7
  have m4_7 := (((hKp _ a4_o.1).2.2.2 (fun z => hKo_ne4 z)).2.1 7).trans m4_7
  have n7 := (hko 7 (by decide)).trans n7
  have n8 := (hko 8 (by decide)).trans n8
  have n9 := (hko 9 (by decide)).trans n9
  have n10 := (hko 10 (by decide)).trans n10
  have i0 := (hkp 0).1.trans i0
  have i5 := (hkp 5).1.trans i5
  refine G_aload_n h dX0_init_88 (i := 0) rfl rfl rfl ?_
  have hWc := hG.2.2.2.2.1 hW
  have hKo := hK
  have a1_o := a1
  have hKo_ne1 : q1 = th → False := fun z => absurd ((congrArg (eK E15) z).symm.trans a1.2.1) (by rw [hK.2]; decide)
  have a2_o := a2
  have hKo_ne2 : q2 = th → False := fun z => absurd ((congrArg (eK E15) z).symm.trans a2.2.1) (by rw [hK.2]; decide)
  have a4_o := a4
  have hKo_ne4 : q4 = th → False := fun z => absurd ((congrArg (eK E15) z).symm.trans a4.2.1) (by rw [hK.2]; decide)
  refine G_fldO (T := TX0) (N := 11) (ci := 0) (k := 7) rfl inG0 (lwg (List.mem_of_getElem? (i := 195) (by decide +kernel)) rfl) rfl (by decide) rfl (by decide) tyX0 tyX0_ok nmX0 rfl rfl (fun _ => rfl) (fun _ => rfl) h hI hG hth hK n7 (C2 := RX4) (T2 := TX4) (N2 := 2) (c2 := 3) rfl (by decide) inG4 tyX4 tyX4_ok (by intro j hj; (rcases (show j = 0 ∨ j = 1 by omega) with rfl | rfl) <;> rfl) (lwg (List.mem_of_getElem? (i := 146) (by decide +kernel)) rfl) (lwg (List.mem_of_getElem? (i := 147) (by decide +kernel)) rfl) (lwg (List.mem_of_getElem? (i := 78) (by decide +kernel)) rfl) (y := yX4_init) (Ini := Rw0) (fun E2 M2 q a1 a2 a3 a4 a5 => ok_init_X4 l0 a1 a2 a3 a4 a5) Rw0_k rfl ⟨by decide +kernel, by decide +kernel, by decide +kernel⟩ (lwg (List.mem_of_getElem? (i := 148) (by decide +kernel)) rfl) (lwg (List.mem_of_getElem? (i := 149) (by decide +kernel)) rfl) (lwg (List.mem_of_getElem? (i := 78) (by decide +kernel)) rfl) (lwg (List.mem_of_getElem? (i := 150) (by decide +kernel)) rfl) ⟨rfl, rfl, (Nat.le_of_ble_eq_true rfl), (Nat.le_of_ble_eq_true rfl)⟩ hW (Nat.le_of_ble_eq_true rfl) (Nat.le_of_ble_eq_true rfl) (Nat.le_of_ble_eq_true rfl) dX0_init_89 dX0_init_92 dX0_init_93 dX0_init_96 rfl (fun E16 M16 q7 h hG hKp hkp hK f7 hko a7 hq7 z7 hW7 => ?_)
  have f1 := (hko 1 (by decide)).trans f1
  have a1 := hKp.A a1
  have f2 := (hko 2 (by decide)).trans f2
  have a2 := hKp.A a2
  have z3 := St0_k _ _ _ _ th _ hWc a3 (by rw [hKo.2]; omega) hKp z3
  have f3 := (hko 3 (by decide)).trans f3
  have a3 := hKp.K a3
  have f4 := (hko 4 (by decide)).trans f4
  have a4 := hKp.A a4
  have e4_0 := (((hKp _ a4_o.1).2.2.2 (fun z => hKo_ne4 z)).1 0).trans e4_0
  have k4_0 := hKp.K k4_0
  have m4_0 := (((hKp _ a4_o.1).2.2.2 (fun z => hKo_ne4 z)).2.1 0).trans m4_0
  have e4_1 := (((hKp _ a4_o.1).2.2.2 (fun z => hKo_ne4 z)).1 1).trans e4_1
  have k4_1 := hKp.K k4_1
  have m4_1 := (((hKp _ a4_o.1).2.2.2 (fun z => hKo_ne4 z)).2.1 1).trans m4_1
  have e4_2 := (((hKp _ a4_o.1).2.2.2 (fun z => hKo_ne4 z)).1 2).trans e4_2
  have k4_2 := hKp.K k4_2
  have m4_2 := (((hKp _ a4_o.1).2.2.2 (fun z => hKo_ne4 z)).2.1 2).trans m4_2
  have e4_3 := (((hKp _ a4_o.1).2.2.2 (fun z => hKo_ne4 z)).1 3).trans e4_3
  have k4_3 := hKp.K k4_3
  have m4_3 := (((hKp _ a4_o.1).2.2.2 (fun z => hKo_ne4 z)).2.1 3).trans m4_3
  have e4_4 := (((hKp _ a4_o.1).2.2.2 (fun z => hKo_ne4 z)).1 4).trans e4_4
  have k4_4 := hKp.K k4_4
  have m4_4 := (((hKp _ a4_o.1).2.2.2 (fun z => hKo_ne4 z)).2.1 4).trans m4_4
  have e4_5 := (((hKp _ a4_o.1).2.2.2 (fun z => hKo_ne4 z)).1 5).trans e4_5
  have k4_5 := hKp.K k4_5
  have m4_5 := (((hKp _ a4_o.1).2.2.2 (fun z => hKo_ne4 z)).2.1 5).trans m4_5
  have e4_6 := (((hKp _ a4_o.1).2.2.2 (fun z => hKo_ne4 z)).1 6).trans e4_6
  have k4_6 := hKp.K k4_6
  have m4_6 := (((hKp _ a4_o.1).2.2.2 (fun z => hKo_ne4 z)).2.1 6).trans m4_6
  have e4_7 := (((hKp _ a4_o.1).2.2.2 (fun z => hKo_ne4 z)).1 7).trans e4_7
  have k4_7 := hKp.K k4_7
  have m4_7 := (((hKp _ a4_o.1).2.2.2 (fun z => hKo_ne4 z)).2.1 7).trans m4_7
  have z6 := Rw0_k _ _ _ _ th _ hWc a6 (by rw [hKo.2]; omega) hKp z6
  have f6 := (hko 6 (by decide)).trans f6
  have a6 := hKp.K a6
  have n8 := (hko 8 (by decide)).trans n8
  have n9 := (hko 9 (by decide)).trans n9
  have n10 := (hko 10 (by decide)).trans n10
  have i0 := (hkp 0).1.trans i0
  have i5 := (hkp 5).1.trans i5
  refine G_aload_n h dX0_init_99 (i := 0) rfl rfl rfl ?_
  have hWc := hG.2.2.2.2.1 hW
  have hKo := hK
  have a1_o := a1
  have hKo_ne1 : q1 = th → False := fun z => absurd ((congrArg (eK E16) z).symm.trans a1.2.1) (by rw [hK.2]; decide)
  have a2_o := a2
  have hKo_ne2 : q2 = th → False := fun z => absurd ((congrArg (eK E16) z).symm.trans a2.2.1) (by rw [hK.2]; decide)
  have a4_o := a4
  have hKo_ne4 : q4 = th → False := fun z => absurd ((congrArg (eK E16) z).symm.trans a4.2.1) (by rw [hK.2]; decide)
  refine G_fldO (T := TX0) (N := 11) (ci := 0) (k := 8) rfl inG0 (lwg (List.mem_of_getElem? (i := 197) (by decide +kernel)) rfl) rfl (by decide) rfl (by decide) tyX0 tyX0_ok nmX0 rfl rfl (fun _ => rfl) (fun _ => rfl) h hI hG hth hK n8 (C2 := RX4) (T2 := TX4) (N2 := 2) (c2 := 3) rfl (by decide) inG4 tyX4 tyX4_ok (by intro j hj; (rcases (show j = 0 ∨ j = 1 by omega) with rfl | rfl) <;> rfl) (lwg (List.mem_of_getElem? (i := 146) (by decide +kernel)) rfl) (lwg (List.mem_of_getElem? (i := 147) (by decide +kernel)) rfl) (lwg (List.mem_of_getElem? (i := 78) (by decide +kernel)) rfl) (y := yX4_init) (Ini := Rw0) (fun E2 M2 q a1 a2 a3 a4 a5 => ok_init_X4 l0 a1 a2 a3 a4 a5) Rw0_k rfl ⟨by decide +kernel, by decide +kernel, by decide +kernel⟩ (lwg (List.mem_of_getElem? (i := 148) (by decide +kernel)) rfl) (lwg (List.mem_of_getElem? (i := 149) (by decide +kernel)) rfl) (lwg (List.mem_of_getElem? (i := 78) (by decide +kernel)) rfl) (lwg (List.mem_of_getElem? (i := 150) (by decide +kernel)) rfl) ⟨rfl, rfl, (Nat.le_of_ble_eq_true rfl), (Nat.le_of_ble_eq_true rfl)⟩ hW (Nat.le_of_ble_eq_true rfl) (Nat.le_of_ble_eq_true rfl) (Nat.le_of_ble_eq_true rfl) dX0_init_100 dX0_init_103 dX0_init_104 dX0_init_107 rfl (fun E17 M17 q8 h hG hKp hkp hK f8 hko a8 hq8 z8 hW8 => ?_)
  have f1 := (hko 1 (by decide)).trans f1
  have a1 := hKp.A a1
  have f2 := (hko 2 (by decide)).trans f2
  have a2 := hKp.A a2
  have z3 := St0_k _ _ _ _ th _ hWc a3 (by rw [hKo.2]; omega) hKp z3
  have f3 := (hko 3 (by decide)).trans f3
  have a3 := hKp.K a3
  have f4 := (hko 4 (by decide)).trans f4
  have a4 := hKp.A a4
  have e4_0 := (((hKp _ a4_o.1).2.2.2 (fun z => hKo_ne4 z)).1 0).trans e4_0
  have k4_0 := hKp.K k4_0
  have m4_0 := (((hKp _ a4_o.1).2.2.2 (fun z => hKo_ne4 z)).2.1 0).trans m4_0
  have e4_1 := (((hKp _ a4_o.1).2.2.2 (fun z => hKo_ne4 z)).1 1).trans e4_1
  have k4_1 := hKp.K k4_1
  have m4_1 := (((hKp _ a4_o.1).2.2.2 (fun z => hKo_ne4 z)).2.1 1).trans m4_1
  have e4_2 := (((hKp _ a4_o.1).2.2.2 (fun z => hKo_ne4 z)).1 2).trans e4_2
  have k4_2 := hKp.K k4_2
  have m4_2 := (((hKp _ a4_o.1).2.2.2 (fun z => hKo_ne4 z)).2.1 2).trans m4_2
  have e4_3 := (((hKp _ a4_o.1).2.2.2 (fun z => hKo_ne4 z)).1 3).trans e4_3
  have k4_3 := hKp.K k4_3
  have m4_3 := (((hKp _ a4_o.1).2.2.2 (fun z => hKo_ne4 z)).2.1 3).trans m4_3
  have e4_4 := (((hKp _ a4_o.1).2.2.2 (fun z => hKo_ne4 z)).1 4).trans e4_4
  have k4_4 := hKp.K k4_4
  have m4_4 := (((hKp _ a4_o.1).2.2.2 (fun z => hKo_ne4 z)).2.1 4).trans m4_4
  have e4_5 := (((hKp _ a4_o.1).2.2.2 (fun z => hKo_ne4 z)).1 5).trans e4_5
  have k4_5 := hKp.K k4_5
  have m4_5 := (((hKp _ a4_o.1).2.2.2 (fun z => hKo_ne4 z)).2.1 5).trans m4_5
  have e4_6 := (((hKp _ a4_o.1).2.2.2 (fun z => hKo_ne4 z)).1 6).trans e4_6
  have k4_6 := hKp.K k4_6
  have m4_6 := (((hKp _ a4_o.1).2.2.2 (fun z => hKo_ne4 z)).2.1 6).trans m4_6
  have e4_7 := (((hKp _ a4_o.1).2.2.2 (fun z => hKo_ne4 z)).1 7).trans e4_7
  have k4_7 := hKp.K k4_7
  have m4_7 := (((hKp _ a4_o.1).2.2.2 (fun z => hKo_ne4 z)).2.1 7).trans m4_7
  have z6 := Rw0_k _ _ _ _ th _ hWc a6 (by rw [hKo.2]; omega) hKp z6
  have f6 := (hko 6 (by decide)).trans f6
  have a6 := hKp.K a6
  have z7 := Rw0_k _ _ _ _ th _ hWc a7 (by rw [hKo.2]; omega) hKp z7
  have f7 := (hko 7 (by decide)).trans f7
  have a7 := hKp.K a7
  have n9 := (hko 9 (by decide)).trans n9
  have n10 := (hko 10 (by decide)).trans n10
  have i0 := (hkp 0).1.trans i0
  have i5 := (hkp 5).1.trans i5
  refine G_aload_n h dX0_init_110 (i := 0) rfl rfl rfl ?_
  have hWc := hG.2.2.2.2.1 hW
  have hKo := hK
  have a1_o := a1
  have hKo_ne1 : q1 = th → False := fun z => absurd ((congrArg (eK E17) z).symm.trans a1.2.1) (by rw [hK.2]; decide)
  have a2_o := a2
  have hKo_ne2 : q2 = th → False := fun z => absurd ((congrArg (eK E17) z).symm.trans a2.2.1) (by rw [hK.2]; decide)
  have a4_o := a4
  have hKo_ne4 : q4 = th → False := fun z => absurd ((congrArg (eK E17) z).symm.trans a4.2.1) (by rw [hK.2]; decide)
  refine G_fldON (T := TX0) (N := 11) (ci := 0) (k := 9) rfl inG0 (lwg (List.mem_of_getElem? (i := 199) (by decide +kernel)) rfl) rfl (by decide) rfl (by decide) tyX0 tyX0_ok nmX0 rfl rfl (fun _ => rfl) (fun _ => rfl) h hI hG hth hK n9 (host := RX8) (C2 := RX6) (T2 := TX6) (N2 := 0) (c2 := 5) rfl (by decide) inG6 tyX6 tyX6_ok (by intro j hj; omega) (lwg (List.mem_of_getElem? (i := 162) (by decide +kernel)) rfl) (lwg (List.mem_of_getElem? (i := 163) (by decide +kernel)) rfl) (lwg (List.mem_of_getElem? (i := 80) (by decide +kernel)) rfl) (y := yX6_init) (Ini := Tr0) (fun E2 M2 q a1 a2 a3 a4 a5 => ok_init_X6 l0 a1 a2 a3 a4 a5) Tr0_k rfl ⟨by decide +kernel, by decide +kernel, by decide +kernel⟩ (by simp [nwM]) (lwg (List.mem_of_getElem? (i := 165) (by decide +kernel)) rfl) (lwg (List.mem_of_getElem? (i := 80) (by decide +kernel)) rfl) (lwg (List.mem_of_getElem? (i := 166) (by decide +kernel)) rfl) ⟨rfl, rfl, (Nat.le_of_ble_eq_true rfl), (Nat.le_of_ble_eq_true rfl)⟩ hW (Nat.le_of_ble_eq_true rfl) (Nat.le_of_ble_eq_true rfl) (Nat.le_of_ble_eq_true rfl) dX0_init_111 dX0_init_114 dX0_init_115 dX0_init_118 rfl (fun E18 M18 q9 h hG hKp hkp hK f9 hko a9 hq9 z9 hW9 => ?_)
  have f1 := (hko 1 (by decide)).trans f1
  have a1 := hKp.A a1
  have f2 := (hko 2 (by decide)).trans f2
  have a2 := hKp.A a2
  have z3 := St0_k _ _ _ _ th _ hWc a3 (by rw [hKo.2]; omega) hKp z3
  have f3 := (hko 3 (by decide)).trans f3
  have a3 := hKp.K a3
  have f4 := (hko 4 (by decide)).trans f4
  have a4 := hKp.A a4
  have e4_0 := (((hKp _ a4_o.1).2.2.2 (fun z => hKo_ne4 z)).1 0).trans e4_0
  have k4_0 := hKp.K k4_0
  have m4_0 := (((hKp _ a4_o.1).2.2.2 (fun z => hKo_ne4 z)).2.1 0).trans m4_0
  have e4_1 := (((hKp _ a4_o.1).2.2.2 (fun z => hKo_ne4 z)).1 1).trans e4_1
  have k4_1 := hKp.K k4_1
  have m4_1 := (((hKp _ a4_o.1).2.2.2 (fun z => hKo_ne4 z)).2.1 1).trans m4_1
  have e4_2 := (((hKp _ a4_o.1).2.2.2 (fun z => hKo_ne4 z)).1 2).trans e4_2
  have k4_2 := hKp.K k4_2
  have m4_2 := (((hKp _ a4_o.1).2.2.2 (fun z => hKo_ne4 z)).2.1 2).trans m4_2
  have e4_3 := (((hKp _ a4_o.1).2.2.2 (fun z => hKo_ne4 z)).1 3).trans e4_3
  have k4_3 := hKp.K k4_3
  have m4_3 := (((hKp _ a4_o.1).2.2.2 (fun z => hKo_ne4 z)).2.1 3).trans m4_3
  have e4_4 := (((hKp _ a4_o.1).2.2.2 (fun z => hKo_ne4 z)).1 4).trans e4_4
  have k4_4 := hKp.K k4_4
  have m4_4 := (((hKp _ a4_o.1).2.2.2 (fun z => hKo_ne4 z)).2.1 4).trans m4_4
  have e4_5 := (((hKp _ a4_o.1).2.2.2 (fun z => hKo_ne4 z)).1 5).trans e4_5
  have k4_5 := hKp.K k4_5
  have m4_5 := (((hKp _ a4_o.1).2.2.2 (fun z => hKo_ne4 z)).2.1 5).trans m4_5
  have e4_6 := (((hKp _ a4_o.1).2.2.2 (fun z => hKo_ne4 z)).1 6).trans e4_6
  have k4_6 := hKp.K k4_6
  have m4_6 := (((hKp _ a4_o.1).2.2.2 (fun z => hKo_ne4 z)).2.1 6).trans m4_6
  have e4_7 := (((hKp _ a4_o.1).2.2.2 (fun z => hKo_ne4 z)).1 7).trans e4_7
  have k4_7 := hKp.K k4_7
  have m4_7 := (((hKp _ a4_o.1).2.2.2 (fun z => hKo_ne4 z)).2.1 7).trans m4_7
  have z6 := Rw0_k _ _ _ _ th _ hWc a6 (by rw [hKo.2]; omega) hKp z6
  have f6 := (hko 6 (by decide)).trans f6
  have a6 := hKp.K a6
  have z7 := Rw0_k _ _ _ _ th _ hWc a7 (by rw [hKo.2]; omega) hKp z7
  have f7 := (hko 7 (by decide)).trans f7
  have a7 := hKp.K a7
  have z8 := Rw0_k _ _ _ _ th _ hWc a8 (by rw [hKo.2]; omega) hKp z8
  have f8 := (hko 8 (by decide)).trans f8
  have a8 := hKp.K a8
  have n10 := (hko 10 (by decide)).trans n10
  have i0 := (hkp 0).1.trans i0
  have i5 := (hkp 5).1.trans i5
  refine G_aload_n h dX0_init_121 (i := 0) rfl rfl rfl ?_
  have hWc := hG.2.2.2.2.1 hW
  have hKo := hK
  have a1_o := a1
  have hKo_ne1 : q1 = th → False := fun z => absurd ((congrArg (eK E18) z).symm.trans a1.2.1) (by rw [hK.2]; decide)
  have a2_o := a2
  have hKo_ne2 : q2 = th → False := fun z => absurd ((congrArg (eK E18) z).symm.trans a2.2.1) (by rw [hK.2]; decide)
  have a4_o := a4
  have hKo_ne4 : q4 = th → False := fun z => absurd ((congrArg (eK E18) z).symm.trans a4.2.1) (by rw [hK.2]; decide)
  refine G_fldON (T := TX0) (N := 11) (ci := 0) (k := 10) rfl inG0 (lwg (List.mem_of_getElem? (i := 201) (by decide +kernel)) rfl) rfl (by decide) rfl (by decide) tyX0 tyX0_ok nmX0 rfl rfl (fun _ => rfl) (fun _ => rfl) h hI hG hth hK n10 (host := RX8) (C2 := RX2) (T2 := TX2) (N2 := 0) (c2 := 1) rfl (by decide) inG2 tyX2 tyX2_ok (by intro j hj; omega) (lwg (List.mem_of_getElem? (i := 172) (by decide +kernel)) rfl) (lwg (List.mem_of_getElem? (i := 173) (by decide +kernel)) rfl) (lwg (List.mem_of_getElem? (i := 81) (by decide +kernel)) rfl) (y := yX2_init) (Ini := Tr0) (fun E2 M2 q a1 a2 a3 a4 a5 => ok_init_X2 l0 a1 a2 a3 a4 a5) Tr0_k rfl ⟨by decide +kernel, by decide +kernel, by decide +kernel⟩ (by simp [nwM]) (lwg (List.mem_of_getElem? (i := 175) (by decide +kernel)) rfl) (lwg (List.mem_of_getElem? (i := 81) (by decide +kernel)) rfl) (lwg (List.mem_of_getElem? (i := 176) (by decide +kernel)) rfl) ⟨rfl, rfl, (Nat.le_of_ble_eq_true rfl), (Nat.le_of_ble_eq_true rfl)⟩ hW (Nat.le_of_ble_eq_true rfl) (Nat.le_of_ble_eq_true rfl) (Nat.le_of_ble_eq_true rfl) dX0_init_122 dX0_init_125 dX0_init_126 dX0_init_129 rfl (fun E19 M19 q10 h hG hKp hkp hK f10 hko a10 hq10 z10 hW10 => ?_)
  have f1 := (hko 1 (by decide)).trans f1
  have a1 := hKp.A a1
  have f2 := (hko 2 (by decide)).trans f2
  have a2 := hKp.A a2
  have z3 := St0_k _ _ _ _ th _ hWc a3 (by rw [hKo.2]; omega) hKp z3
  have f3 := (hko 3 (by decide)).trans f3
  have a3 := hKp.K a3
  have f4 := (hko 4 (by decide)).trans f4
  have a4 := hKp.A a4
  have e4_0 := (((hKp _ a4_o.1).2.2.2 (fun z => hKo_ne4 z)).1 0).trans e4_0
  have k4_0 := hKp.K k4_0
  have m4_0 := (((hKp _ a4_o.1).2.2.2 (fun z => hKo_ne4 z)).2.1 0).trans m4_0
  have e4_1 := (((hKp _ a4_o.1).2.2.2 (fun z => hKo_ne4 z)).1 1).trans e4_1
  have k4_1 := hKp.K k4_1
  have m4_1 := (((hKp _ a4_o.1).2.2.2 (fun z => hKo_ne4 z)).2.1 1).trans m4_1
  have e4_2 := (((hKp _ a4_o.1).2.2.2 (fun z => hKo_ne4 z)).1 2).trans e4_2
  have k4_2 := hKp.K k4_2
  have m4_2 := (((hKp _ a4_o.1).2.2.2 (fun z => hKo_ne4 z)).2.1 2).trans m4_2
  have e4_3 := (((hKp _ a4_o.1).2.2.2 (fun z => hKo_ne4 z)).1 3).trans e4_3
  have k4_3 := hKp.K k4_3
  have m4_3 := (((hKp _ a4_o.1).2.2.2 (fun z => hKo_ne4 z)).2.1 3).trans m4_3
  have e4_4 := (((hKp _ a4_o.1).2.2.2 (fun z => hKo_ne4 z)).1 4).trans e4_4
  have k4_4 := hKp.K k4_4
  have m4_4 := (((hKp _ a4_o.1).2.2.2 (fun z => hKo_ne4 z)).2.1 4).trans m4_4
  have e4_5 := (((hKp _ a4_o.1).2.2.2 (fun z => hKo_ne4 z)).1 5).trans e4_5
  have k4_5 := hKp.K k4_5
  have m4_5 := (((hKp _ a4_o.1).2.2.2 (fun z => hKo_ne4 z)).2.1 5).trans m4_5
  have e4_6 := (((hKp _ a4_o.1).2.2.2 (fun z => hKo_ne4 z)).1 6).trans e4_6
  have k4_6 := hKp.K k4_6
  have m4_6 := (((hKp _ a4_o.1).2.2.2 (fun z => hKo_ne4 z)).2.1 6).trans m4_6
  have e4_7 := (((hKp _ a4_o.1).2.2.2 (fun z => hKo_ne4 z)).1 7).trans e4_7
  have k4_7 := hKp.K k4_7
  have m4_7 := (((hKp _ a4_o.1).2.2.2 (fun z => hKo_ne4 z)).2.1 7).trans m4_7
  have z6 := Rw0_k _ _ _ _ th _ hWc a6 (by rw [hKo.2]; omega) hKp z6
  have f6 := (hko 6 (by decide)).trans f6
  have a6 := hKp.K a6
  have z7 := Rw0_k _ _ _ _ th _ hWc a7 (by rw [hKo.2]; omega) hKp z7
  have f7 := (hko 7 (by decide)).trans f7
  have a7 := hKp.K a7
  have z8 := Rw0_k _ _ _ _ th _ hWc a8 (by rw [hKo.2]; omega) hKp z8
  have f8 := (hko 8 (by decide)).trans f8
  have a8 := hKp.K a8
  have z9 := Tr0_k _ _ _ _ th _ hWc a9 (by rw [hKo.2]; omega) hKp z9
  have f9 := (hko 9 (by decide)).trans f9
  have a9 := hKp.K a9
  have i0 := (hkp 0).1.trans i0
  have i5 := (hkp 5).1.trans i5
  have hne4 : q4 ≠ th := fun z => absurd ((congrArg (eK E19) z).symm.trans a4.2.1) (by rw [hK.2]; decide)
  have hm : ∀ j, j < 8 → mr M19 q4 j = rr E19 q4 j := by
    intro j hj
    rcases (show j = 0 ∨ j = 1 ∨ j = 2 ∨ j = 3 ∨ j = 4 ∨ j = 5 ∨ j = 6 ∨ j = 7 by omega) with rfl | rfl | rfl | rfl | rfl | rfl | rfl | rfl
    · rw [m4_0, rr_of e4_0]
    · rw [m4_1, rr_of e4_1]
    · rw [m4_2, rr_of e4_2]
    · rw [m4_3, rr_of e4_3]
    · rw [m4_4, rr_of e4_4]
    · rw [m4_5, rr_of e4_5]
    · rw [m4_6, rr_of e4_6]
    · rw [m4_7, rr_of e4_7]
  have hmk : ∀ j, j < 8 → isK E19 (mr M19 q4 j) 4 := by
    intro j hj
    rcases (show j = 0 ∨ j = 1 ∨ j = 2 ∨ j = 3 ∨ j = 4 ∨ j = 5 ∨ j = 6 ∨ j = 7 by omega) with rfl | rfl | rfl | rfl | rfl | rfl | rfl | rfl
    · rw [m4_0]; exact k4_0
    · rw [m4_1]; exact k4_1
    · rw [m4_2]; exact k4_2
    · rw [m4_3]; exact k4_3
    · rw [m4_4]; exact k4_4
    · rw [m4_5]; exact k4_5
    · rw [m4_6]; exact k4_6
    · rw [m4_7]; exact k4_7
  have hG1 := gr_mark (c := 13) hG a4.1 (Or.inr hq4_0) (by rw [a4.2.1]; omega) (fun e he => by
      simp only [rqT, List.mem_cons, List.not_mem_nil, or_false] at he
      rcases he with rfl | rfl | rfl | rfl | rfl | rfl | rfl | rfl
      · exact okK e4_0 k4_0
      · exact okK e4_1 k4_1
      · exact okK e4_2 k4_2
      · exact okK e4_3 k4_3
      · exact okK e4_4 k4_4
      · exact okK e4_5 k4_5
      · exact okK e4_6 k4_6
      · exact okK e4_7 k4_7) (fun _ => hm)
  refine G_mark (q := q4) (c := 13) a4.2.1 (Or.inr (Or.inr rfl)) (WM_mark13 (by rw [a4.2.1]; omega) hmk) ?_
  have k33 := a4.2.1
  have b4 : isA (setK E19 q4 13) q4 13 8 := ⟨a4.1, va_up_self _ _ _, a4.2.2⟩
  have b1 := isA_mark (p := q4) (c := 13) a1 (by rw [k33]; decide)
  have b2 := isA_mark (p := q4) (c := 13) a2 (by rw [k33]; decide)
  have b3 := isK_mark (p := q4) (c := 13) a3 (by rw [k33]; decide)
  have b6 := isK_mark (p := q4) (c := 13) a6 (by rw [k33]; decide)
  have b7 := isK_mark (p := q4) (c := 13) a7 (by rw [k33]; decide)
  have b8 := isK_mark (p := q4) (c := 13) a8 (by rw [k33]; decide)
  have b9 := isK_mark (p := q4) (c := 13) a9 (by rw [k33]; decide)
  have b10 := isK_mark (p := q4) (c := 13) a10 (by rw [k33]; decide)
  have hK1 : isK (setK E19 q4 13) th 20 := isK_mark (p := q4) (c := 13) hK (by rw [k33]; decide)
  have hG2 := gr_mark (c := 0) hG1 hK1.1 (Or.inl rfl) (by rw [hK1.2]; omega) (fun e he => by
      simp only [rqT, List.mem_cons, List.not_mem_nil, or_false] at he
      rcases he with rfl | rfl | rfl | rfl | rfl | rfl | rfl | rfl | rfl
      · exact okA f1 b1
      · exact okA f2 b2
      · exact okK f3 b3
      · exact okA f4 b4
      · exact okK f6 b6
      · exact okK f7 b7
      · exact okK f8 b8
      · exact okK f9 b9
      · exact okK f10 b10) (fun z => absurd z (by decide))
  refine G_mark (q := th) (c := 0) hK1.2 (Or.inl (by decide)) (WM_setK (by rw [hK1.2]; omega) (by decide)) ?_
  refine hR _ _ _ _ dX0_init_132 hG2.1 ⟨hG2, ⟨hK1.1, va_up_self _ _ _⟩, i0, i5, ?_, ?_, ?_, ?_⟩
  · rw [show rr (setK (setK E19 q4 13) th 0) th 3 = q3 from rr_of f3]; exact z3
  · rw [show rr (setK (setK E19 q4 13) th 0) th 6 = q6 from rr_of f6]; exact z6
  · rw [show rr (setK (setK E19 q4 13) th 0) th 7 = q7 from rr_of f7]; exact z7
  · rw [show rr (setK (setK E19 q4 13) th 0) th 8 = q8 from rr_of f8]; exact z8
set_option maxRecDepth 100000 in
set_option maxHeartbeats 8000000 in
theorem ok_init_X3 (l0 : Launch) {E : Env1} {M : Mem} {th : Nat} (hW : WFt E) (hK : isK E th (20 + 2)) (hr : ∀ k, eR E th k = none) (hi : ∀ j, mi M th j = 0) (hl : ∀ j, ml M th j = 0) : Met l0 yX3_init (wsA yX3_init cX3_init 1 none) rm_X3_init (CP E M [.ref th]) (CQn E (fun E' M' => Gr E M E' M' th ∧ isK E' th 2 ∧ Tr0 E' M' th)) 3 552 (eA E) := by
  have hG : Gr E M E M th := gr_rf hr
  have hth : th ∈ eL E := hK.1
  have n0 := hr 0
  have n1 := hr 1
  have n2 := hr 2
  have i3 := hi 3
  have i4 := hi 4
  refine mtC l0 (by decide +kernel) rfl (Nat.le_of_ble_eq_true rfl) (L0 := [some (.ref th)]) rfl (fun X h hI hR => ?_)
  have h : Cx X l0 E RX3 cX3_init none 1 rm_X3_init := h
  refine G_aload_n h dX3_init_0 (i := 0) rfl rfl rfl ?_
  refine G_objInit h (lwg (List.mem_of_getElem? (i := 271) (by decide +kernel)) rfl) (lwg (List.mem_of_getElem? (i := 97) (by decide +kernel)) rfl) (lwg (List.mem_of_getElem? (i := 98) (by decide +kernel)) rfl) dX3_init_1 rfl (Nat.le_of_ble_eq_true rfl) (Nat.le_of_ble_eq_true rfl) ?_
  refine G_aload_n h dX3_init_4 (i := 0) rfl rfl rfl ?_
  refine G_bipush h dX3_init_5 (v := 40) (by decide) rfl ?_
  have hWc := hG.2.2.2.2.1 hW
  have hKo := hK
  refine G_fldI (T := TX3) (N := 5) (ci := 2) (k := 0) rfl inG3 (lwg (List.mem_of_getElem? (i := 272) (by decide +kernel)) rfl) rfl (by decide) rfl (by decide) tyX3 tyX3_ok nmX3 rfl rfl (fun _ => rfl) (fun _ => rfl) h hI hG hth hK n0 (lwg (List.mem_of_getElem? (i := 144) (by decide +kernel)) rfl) (N' := 40) (by decide) (by decide) (Nat.le_of_ble_eq_true rfl) (Nat.le_of_ble_eq_true rfl) (Nat.le_of_ble_eq_true rfl) dX3_init_7 dX3_init_9 rfl (fun E1 M1 q0 h hG hKp hkp hK f0 hko a0 hq0 u0 u0l => ?_)
  have n1 := (hko 1 (by decide)).trans n1
  have n2 := (hko 2 (by decide)).trans n2
  have i3 := (hkp 3).1.trans i3
  have i4 := (hkp 4).1.trans i4
  refine G_aload_n h dX3_init_12 (i := 0) rfl rfl rfl ?_
  refine G_sipush h dX3_init_13 (v := 256) (by decide) rfl ?_
  have hWc := hG.2.2.2.2.1 hW
  have hKo := hK
  have a0_o := a0
  have hKo_ne0 : q0 = th → False := fun z => absurd ((congrArg (eK E1) z).symm.trans a0.2.1) (by rw [hK.2]; decide)
  refine G_fldI (T := TX3) (N := 5) (ci := 2) (k := 1) rfl inG3 (lwg (List.mem_of_getElem? (i := 273) (by decide +kernel)) rfl) rfl (by decide) rfl (by decide) tyX3 tyX3_ok nmX3 rfl rfl (fun _ => rfl) (fun _ => rfl) h hI hG hth hK n1 (lwg (List.mem_of_getElem? (i := 144) (by decide +kernel)) rfl) (N' := 256) (by decide) (by decide) (Nat.le_of_ble_eq_true rfl) (Nat.le_of_ble_eq_true rfl) (Nat.le_of_ble_eq_true rfl) dX3_init_16 dX3_init_18 rfl (fun E2 M2 q1 h hG hKp hkp hK f1 hko a1 hq1 u1 u1l => ?_)
  have f0 := (hko 0 (by decide)).trans f0
  have a0 := hKp.A a0
  have n2 := (hko 2 (by decide)).trans n2
  have i3 := (hkp 3).1.trans i3
  have i4 := (hkp 4).1.trans i4
  refine G_aload_n h dX3_init_21 (i := 0) rfl rfl rfl ?_
  refine G_sipush h dX3_init_22 (v := 256) (by decide) rfl ?_
  have hWc := hG.2.2.2.2.1 hW
  have hKo := hK
  have a0_o := a0
  have hKo_ne0 : q0 = th → False := fun z => absurd ((congrArg (eK E2) z).symm.trans a0.2.1) (by rw [hK.2]; decide)
  have a1_o := a1
  have hKo_ne1 : q1 = th → False := fun z => absurd ((congrArg (eK E2) z).symm.trans a1.2.1) (by rw [hK.2]; decide)
  refine G_fldI (T := TX3) (N := 5) (ci := 2) (k := 2) rfl inG3 (lwg (List.mem_of_getElem? (i := 274) (by decide +kernel)) rfl) rfl (by decide) rfl (by decide) tyX3 tyX3_ok nmX3 rfl rfl (fun _ => rfl) (fun _ => rfl) h hI hG hth hK n2 (lwg (List.mem_of_getElem? (i := 144) (by decide +kernel)) rfl) (N' := 256) (by decide) (by decide) (Nat.le_of_ble_eq_true rfl) (Nat.le_of_ble_eq_true rfl) (Nat.le_of_ble_eq_true rfl) dX3_init_25 dX3_init_27 rfl (fun E3 M3 q2 h hG hKp hkp hK f2 hko a2 hq2 u2 u2l => ?_)
  have f0 := (hko 0 (by decide)).trans f0
  have a0 := hKp.A a0
  have f1 := (hko 1 (by decide)).trans f1
  have a1 := hKp.A a1
  have i3 := (hkp 3).1.trans i3
  have i4 := (hkp 4).1.trans i4
  refine G_aload_n h dX3_init_30 (i := 0) rfl rfl rfl ?_
  refine G_iconst h dX3_init_31 (v := 0) (by decide) rfl ?_
  have hWc := hG.2.2.2.2.1 hW
  have hKo := hK
  have a0_o := a0
  have hKo_ne0 : q0 = th → False := fun z => absurd ((congrArg (eK E3) z).symm.trans a0.2.1) (by rw [hK.2]; decide)
  have a1_o := a1
  have hKo_ne1 : q1 = th → False := fun z => absurd ((congrArg (eK E3) z).symm.trans a1.2.1) (by rw [hK.2]; decide)
  have a2_o := a2
  have hKo_ne2 : q2 = th → False := fun z => absurd ((congrArg (eK E3) z).symm.trans a2.2.1) (by rw [hK.2]; decide)
  refine G_puti h (T := TX3) (N := 5) (ci := 2) (k := 3) rfl inG3 (lwg (List.mem_of_getElem? (i := 275) (by decide +kernel)) rfl) rfl (by decide) rfl (by decide) tyX3 tyX3_ok nmX3 rfl rfl dX3_init_32 (Or.inr rfl) hK rfl ?_
  obtain ⟨M4, hM4⟩ : ∃ z, z = wi M3 th 3 (0 : Int32) := ⟨_, rfl⟩
  rw [← hM4]
  have hG : Gr E M E3 M4 th := by rw [hM4]; exact gr_wi hG
  have hKp : Keep E3 M3 E3 M4 th := by rw [hM4]; exact keep_wi
  have i3 : mi M4 th 3 = (0 : Int32) := by rw [hM4, mi_wi]; exact if_pos ⟨rfl, rfl⟩
  have i4 := (show mi M4 th 4 = mi M3 th 4 by rw [hM4]; rw [mi_wi]; exact if_neg (fun z => absurd z.2 (by decide))).trans i4
  refine G_aload_n h dX3_init_35 (i := 0) rfl rfl rfl ?_
  refine G_iconst h dX3_init_36 (v := -1) (by decide) rfl ?_
  have hWc := hG.2.2.2.2.1 hW
  have hKo := hK
  have a0_o := a0
  have hKo_ne0 : q0 = th → False := fun z => absurd ((congrArg (eK E3) z).symm.trans a0.2.1) (by rw [hK.2]; decide)
  have a1_o := a1
  have hKo_ne1 : q1 = th → False := fun z => absurd ((congrArg (eK E3) z).symm.trans a1.2.1) (by rw [hK.2]; decide)
  have a2_o := a2
  have hKo_ne2 : q2 = th → False := fun z => absurd ((congrArg (eK E3) z).symm.trans a2.2.1) (by rw [hK.2]; decide)
  refine G_puti h (T := TX3) (N := 5) (ci := 2) (k := 4) rfl inG3 (lwg (List.mem_of_getElem? (i := 276) (by decide +kernel)) rfl) rfl (by decide) rfl (by decide) tyX3 tyX3_ok nmX3 rfl rfl dX3_init_37 (Or.inr rfl) hK rfl ?_
  obtain ⟨M5, hM5⟩ : ∃ z, z = wi M4 th 4 (-1 : Int32) := ⟨_, rfl⟩
  rw [← hM5]
  have hG : Gr E M E3 M5 th := by rw [hM5]; exact gr_wi hG
  have hKp : Keep E3 M4 E3 M5 th := by rw [hM5]; exact keep_wi
  have i3 := (show mi M5 th 3 = mi M4 th 3 by rw [hM5]; rw [mi_wi]; exact if_neg (fun z => absurd z.2 (by decide))).trans i3
  have i4 : mi M5 th 4 = (-1 : Int32) := by rw [hM5, mi_wi]; exact if_pos ⟨rfl, rfl⟩
  have hGm := gr_mark (c := 2) hG hK.1 (Or.inl rfl) (by rw [hK.2]; omega) (fun e he => by
      simp only [rqT, List.mem_cons, List.not_mem_nil, or_false] at he
      rcases he with rfl | rfl | rfl
      · exact okA f0 a0
      · exact okA f1 a1
      · exact okA f2 a2) (fun z => absurd z (by decide))
  refine G_mark (q := th) (c := 2) hK.2 (Or.inl (by decide)) (WM_setK (by rw [hK.2]; omega) (by decide)) ?_
  exact hR _ _ _ _ dX3_init_40 hGm.1 ⟨hGm, ⟨hK.1, va_up_self _ _ _⟩, trivial⟩
set_option maxRecDepth 100000 in
set_option maxHeartbeats 8000000 in
theorem ok_init_X7 (l0 : Launch) {E : Env1} {M : Mem} {th : Nat} (hW : WFt E) (hK : isK E th (20 + 6)) (hr : ∀ k, eR E th k = none) (hi : ∀ j, mi M th j = 0) (hl : ∀ j, ml M th j = 0) : Met l0 yX7_init (wsA yX7_init cX7_init 1 none) rm_X7_init (CP E M [.ref th]) (CQn E (fun E' M' => Gr E M E' M' th ∧ isK E' th 6 ∧ Rw0 E' M' th)) 2 158 (eA E) := by
  have hG : Gr E M E M th := gr_rf hr
  have hth : th ∈ eL E := hK.1
  have n1 := hr 1
  have n8 := hr 8
  have i0 := hi 0
  have i2 := hi 2
  have i3 := hi 3
  have i4 := hi 4
  have i5 := hi 5
  have i6 := hi 6
  have i7 := hi 7
  have i9 := hi 9
  refine mtC l0 (by decide +kernel) rfl (Nat.le_of_ble_eq_true rfl) (L0 := [some (.ref th)]) rfl (fun X h hI hR => ?_)
  have h : Cx X l0 E RX7 cX7_init none 1 rm_X7_init := h
  refine G_aload_n h dX7_init_0 (i := 0) rfl rfl rfl ?_
  refine G_objInit h (lwg (List.mem_of_getElem? (i := 232) (by decide +kernel)) rfl) (lwg (List.mem_of_getElem? (i := 97) (by decide +kernel)) rfl) (lwg (List.mem_of_getElem? (i := 98) (by decide +kernel)) rfl) dX7_init_1 rfl (Nat.le_of_ble_eq_true rfl) (Nat.le_of_ble_eq_true rfl) ?_
  refine G_aload_n h dX7_init_4 (i := 0) rfl rfl rfl ?_
  refine G_iconst h dX7_init_5 (v := 0) (by decide) rfl ?_
  have hWc := hG.2.2.2.2.1 hW
  have hKo := hK
  refine G_puti h (T := TX7) (N := 10) (ci := 6) (k := 0) rfl inG7 (lwg (List.mem_of_getElem? (i := 233) (by decide +kernel)) rfl) rfl (by decide) rfl (by decide) tyX7 tyX7_ok nmX7 rfl rfl dX7_init_6 (Or.inr rfl) hK rfl ?_
  obtain ⟨M1, hM1⟩ : ∃ z, z = wi M th 0 (0 : Int32) := ⟨_, rfl⟩
  rw [← hM1]
  have hG : Gr E M E M1 th := by rw [hM1]; exact gr_wi hG
  have hKp : Keep E M E M1 th := by rw [hM1]; exact keep_wi
  have i0 : mi M1 th 0 = (0 : Int32) := by rw [hM1, mi_wi]; exact if_pos ⟨rfl, rfl⟩
  have i2 := (show mi M1 th 2 = mi M th 2 by rw [hM1]; rw [mi_wi]; exact if_neg (fun z => absurd z.2 (by decide))).trans i2
  have i3 := (show mi M1 th 3 = mi M th 3 by rw [hM1]; rw [mi_wi]; exact if_neg (fun z => absurd z.2 (by decide))).trans i3
  have i4 := (show mi M1 th 4 = mi M th 4 by rw [hM1]; rw [mi_wi]; exact if_neg (fun z => absurd z.2 (by decide))).trans i4
  have i5 := (show mi M1 th 5 = mi M th 5 by rw [hM1]; rw [mi_wi]; exact if_neg (fun z => absurd z.2 (by decide))).trans i5
  have i6 := (show mi M1 th 6 = mi M th 6 by rw [hM1]; rw [mi_wi]; exact if_neg (fun z => absurd z.2 (by decide))).trans i6
  have i7 := (show mi M1 th 7 = mi M th 7 by rw [hM1]; rw [mi_wi]; exact if_neg (fun z => absurd z.2 (by decide))).trans i7
  have i9 := (show mi M1 th 9 = mi M th 9 by rw [hM1]; rw [mi_wi]; exact if_neg (fun z => absurd z.2 (by decide))).trans i9
  refine G_aload_n h dX7_init_9 (i := 0) rfl rfl rfl ?_
  refine G_sipush h dX7_init_10 (v := 150) (by decide) rfl ?_
  have hWc := hG.2.2.2.2.1 hW
  have hKo := hK
  refine G_fldI (T := TX7) (N := 10) (ci := 6) (k := 1) rfl inG7 (lwg (List.mem_of_getElem? (i := 235) (by decide +kernel)) rfl) rfl (by decide) rfl (by decide) tyX7 tyX7_ok nmX7 rfl rfl (fun _ => rfl) (fun _ => rfl) h hI hG hth hK n1 (lwg (List.mem_of_getElem? (i := 144) (by decide +kernel)) rfl) (N' := 150) (by decide) (by decide) (Nat.le_of_ble_eq_true rfl) (Nat.le_of_ble_eq_true rfl) (Nat.le_of_ble_eq_true rfl) dX7_init_13 dX7_init_15 rfl (fun E2 M2 q1 h hG hKp hkp hK f1 hko a1 hq1 u1 u1l => ?_)
  have n8 := (hko 8 (by decide)).trans n8
  have i0 := (hkp 0).1.trans i0
  have i2 := (hkp 2).1.trans i2
  have i3 := (hkp 3).1.trans i3
  have i4 := (hkp 4).1.trans i4
  have i5 := (hkp 5).1.trans i5
  have i6 := (hkp 6).1.trans i6
  have i7 := (hkp 7).1.trans i7
  have i9 := (hkp 9).1.trans i9
  refine G_aload_n h dX7_init_18 (i := 0) rfl rfl rfl ?_
  refine G_iconst h dX7_init_19 (v := 0) (by decide) rfl ?_
  have hWc := hG.2.2.2.2.1 hW
  have hKo := hK
  have a1_o := a1
  have hKo_ne1 : q1 = th → False := fun z => absurd ((congrArg (eK E2) z).symm.trans a1.2.1) (by rw [hK.2]; decide)
  refine G_puti h (T := TX7) (N := 10) (ci := 6) (k := 2) rfl inG7 (lwg (List.mem_of_getElem? (i := 236) (by decide +kernel)) rfl) rfl (by decide) rfl (by decide) tyX7 tyX7_ok nmX7 rfl rfl dX7_init_20 (Or.inr rfl) hK rfl ?_
  obtain ⟨M3, hM3⟩ : ∃ z, z = wi M2 th 2 (0 : Int32) := ⟨_, rfl⟩
  rw [← hM3]
  have hG : Gr E M E2 M3 th := by rw [hM3]; exact gr_wi hG
  have hKp : Keep E2 M2 E2 M3 th := by rw [hM3]; exact keep_wi
  have i0 := (show mi M3 th 0 = mi M2 th 0 by rw [hM3]; rw [mi_wi]; exact if_neg (fun z => absurd z.2 (by decide))).trans i0
  have i2 : mi M3 th 2 = (0 : Int32) := by rw [hM3, mi_wi]; exact if_pos ⟨rfl, rfl⟩
  have i3 := (show mi M3 th 3 = mi M2 th 3 by rw [hM3]; rw [mi_wi]; exact if_neg (fun z => absurd z.2 (by decide))).trans i3
  have i4 := (show mi M3 th 4 = mi M2 th 4 by rw [hM3]; rw [mi_wi]; exact if_neg (fun z => absurd z.2 (by decide))).trans i4
  have i5 := (show mi M3 th 5 = mi M2 th 5 by rw [hM3]; rw [mi_wi]; exact if_neg (fun z => absurd z.2 (by decide))).trans i5
  have i6 := (show mi M3 th 6 = mi M2 th 6 by rw [hM3]; rw [mi_wi]; exact if_neg (fun z => absurd z.2 (by decide))).trans i6
  have i7 := (show mi M3 th 7 = mi M2 th 7 by rw [hM3]; rw [mi_wi]; exact if_neg (fun z => absurd z.2 (by decide))).trans i7
  have i9 := (show mi M3 th 9 = mi M2 th 9 by rw [hM3]; rw [mi_wi]; exact if_neg (fun z => absurd z.2 (by decide))).trans i9
  refine G_aload_n h dX7_init_23 (i := 0) rfl rfl rfl ?_
  refine G_iconst h dX7_init_24 (v := 0) (by decide) rfl ?_
  have hWc := hG.2.2.2.2.1 hW
  have hKo := hK
  have a1_o := a1
  have hKo_ne1 : q1 = th → False := fun z => absurd ((congrArg (eK E2) z).symm.trans a1.2.1) (by rw [hK.2]; decide)
  refine G_puti h (T := TX7) (N := 10) (ci := 6) (k := 3) rfl inG7 (lwg (List.mem_of_getElem? (i := 237) (by decide +kernel)) rfl) rfl (by decide) rfl (by decide) tyX7 tyX7_ok nmX7 rfl rfl dX7_init_25 (Or.inr rfl) hK rfl ?_
  obtain ⟨M4, hM4⟩ : ∃ z, z = wi M3 th 3 (0 : Int32) := ⟨_, rfl⟩
  rw [← hM4]
  have hG : Gr E M E2 M4 th := by rw [hM4]; exact gr_wi hG
  have hKp : Keep E2 M3 E2 M4 th := by rw [hM4]; exact keep_wi
  have i0 := (show mi M4 th 0 = mi M3 th 0 by rw [hM4]; rw [mi_wi]; exact if_neg (fun z => absurd z.2 (by decide))).trans i0
  have i2 := (show mi M4 th 2 = mi M3 th 2 by rw [hM4]; rw [mi_wi]; exact if_neg (fun z => absurd z.2 (by decide))).trans i2
  have i3 : mi M4 th 3 = (0 : Int32) := by rw [hM4, mi_wi]; exact if_pos ⟨rfl, rfl⟩
  have i4 := (show mi M4 th 4 = mi M3 th 4 by rw [hM4]; rw [mi_wi]; exact if_neg (fun z => absurd z.2 (by decide))).trans i4
  have i5 := (show mi M4 th 5 = mi M3 th 5 by rw [hM4]; rw [mi_wi]; exact if_neg (fun z => absurd z.2 (by decide))).trans i5
  have i6 := (show mi M4 th 6 = mi M3 th 6 by rw [hM4]; rw [mi_wi]; exact if_neg (fun z => absurd z.2 (by decide))).trans i6
  have i7 := (show mi M4 th 7 = mi M3 th 7 by rw [hM4]; rw [mi_wi]; exact if_neg (fun z => absurd z.2 (by decide))).trans i7
  have i9 := (show mi M4 th 9 = mi M3 th 9 by rw [hM4]; rw [mi_wi]; exact if_neg (fun z => absurd z.2 (by decide))).trans i9
  refine G_aload_n h dX7_init_28 (i := 0) rfl rfl rfl ?_
  refine G_iconst h dX7_init_29 (v := 0) (by decide) rfl ?_
  have hWc := hG.2.2.2.2.1 hW
  have hKo := hK
  have a1_o := a1
  have hKo_ne1 : q1 = th → False := fun z => absurd ((congrArg (eK E2) z).symm.trans a1.2.1) (by rw [hK.2]; decide)
  refine G_puti h (T := TX7) (N := 10) (ci := 6) (k := 4) rfl inG7 (lwg (List.mem_of_getElem? (i := 238) (by decide +kernel)) rfl) rfl (by decide) rfl (by decide) tyX7 tyX7_ok nmX7 rfl rfl dX7_init_30 (Or.inr rfl) hK rfl ?_
  obtain ⟨M5, hM5⟩ : ∃ z, z = wi M4 th 4 (0 : Int32) := ⟨_, rfl⟩
  rw [← hM5]
  have hG : Gr E M E2 M5 th := by rw [hM5]; exact gr_wi hG
  have hKp : Keep E2 M4 E2 M5 th := by rw [hM5]; exact keep_wi
  have i0 := (show mi M5 th 0 = mi M4 th 0 by rw [hM5]; rw [mi_wi]; exact if_neg (fun z => absurd z.2 (by decide))).trans i0
  have i2 := (show mi M5 th 2 = mi M4 th 2 by rw [hM5]; rw [mi_wi]; exact if_neg (fun z => absurd z.2 (by decide))).trans i2
  have i3 := (show mi M5 th 3 = mi M4 th 3 by rw [hM5]; rw [mi_wi]; exact if_neg (fun z => absurd z.2 (by decide))).trans i3
  have i4 : mi M5 th 4 = (0 : Int32) := by rw [hM5, mi_wi]; exact if_pos ⟨rfl, rfl⟩
  have i5 := (show mi M5 th 5 = mi M4 th 5 by rw [hM5]; rw [mi_wi]; exact if_neg (fun z => absurd z.2 (by decide))).trans i5
  have i6 := (show mi M5 th 6 = mi M4 th 6 by rw [hM5]; rw [mi_wi]; exact if_neg (fun z => absurd z.2 (by decide))).trans i6
  have i7 := (show mi M5 th 7 = mi M4 th 7 by rw [hM5]; rw [mi_wi]; exact if_neg (fun z => absurd z.2 (by decide))).trans i7
  have i9 := (show mi M5 th 9 = mi M4 th 9 by rw [hM5]; rw [mi_wi]; exact if_neg (fun z => absurd z.2 (by decide))).trans i9
  refine G_aload_n h dX7_init_33 (i := 0) rfl rfl rfl ?_
  refine G_iconst h dX7_init_34 (v := 0) (by decide) rfl ?_
  have hWc := hG.2.2.2.2.1 hW
  have hKo := hK
  have a1_o := a1
  have hKo_ne1 : q1 = th → False := fun z => absurd ((congrArg (eK E2) z).symm.trans a1.2.1) (by rw [hK.2]; decide)
  refine G_puti h (T := TX7) (N := 10) (ci := 6) (k := 5) rfl inG7 (lwg (List.mem_of_getElem? (i := 239) (by decide +kernel)) rfl) rfl (by decide) rfl (by decide) tyX7 tyX7_ok nmX7 rfl rfl dX7_init_35 (Or.inr rfl) hK rfl ?_
  obtain ⟨M6, hM6⟩ : ∃ z, z = wi M5 th 5 (0 : Int32) := ⟨_, rfl⟩
  rw [← hM6]
  have hG : Gr E M E2 M6 th := by rw [hM6]; exact gr_wi hG
  have hKp : Keep E2 M5 E2 M6 th := by rw [hM6]; exact keep_wi
  have i0 := (show mi M6 th 0 = mi M5 th 0 by rw [hM6]; rw [mi_wi]; exact if_neg (fun z => absurd z.2 (by decide))).trans i0
  have i2 := (show mi M6 th 2 = mi M5 th 2 by rw [hM6]; rw [mi_wi]; exact if_neg (fun z => absurd z.2 (by decide))).trans i2
  have i3 := (show mi M6 th 3 = mi M5 th 3 by rw [hM6]; rw [mi_wi]; exact if_neg (fun z => absurd z.2 (by decide))).trans i3
  have i4 := (show mi M6 th 4 = mi M5 th 4 by rw [hM6]; rw [mi_wi]; exact if_neg (fun z => absurd z.2 (by decide))).trans i4
  have i5 : mi M6 th 5 = (0 : Int32) := by rw [hM6, mi_wi]; exact if_pos ⟨rfl, rfl⟩
  have i6 := (show mi M6 th 6 = mi M5 th 6 by rw [hM6]; rw [mi_wi]; exact if_neg (fun z => absurd z.2 (by decide))).trans i6
  have i7 := (show mi M6 th 7 = mi M5 th 7 by rw [hM6]; rw [mi_wi]; exact if_neg (fun z => absurd z.2 (by decide))).trans i7
  have i9 := (show mi M6 th 9 = mi M5 th 9 by rw [hM6]; rw [mi_wi]; exact if_neg (fun z => absurd z.2 (by decide))).trans i9
  refine G_aload_n h dX7_init_38 (i := 0) rfl rfl rfl ?_
  refine G_iconst h dX7_init_39 (v := -1) (by decide) rfl ?_
  have hWc := hG.2.2.2.2.1 hW
  have hKo := hK
  have a1_o := a1
  have hKo_ne1 : q1 = th → False := fun z => absurd ((congrArg (eK E2) z).symm.trans a1.2.1) (by rw [hK.2]; decide)
  refine G_puti h (T := TX7) (N := 10) (ci := 6) (k := 6) rfl inG7 (lwg (List.mem_of_getElem? (i := 240) (by decide +kernel)) rfl) rfl (by decide) rfl (by decide) tyX7 tyX7_ok nmX7 rfl rfl dX7_init_40 (Or.inr rfl) hK rfl ?_
  obtain ⟨M7, hM7⟩ : ∃ z, z = wi M6 th 6 (-1 : Int32) := ⟨_, rfl⟩
  rw [← hM7]
  have hG : Gr E M E2 M7 th := by rw [hM7]; exact gr_wi hG
  have hKp : Keep E2 M6 E2 M7 th := by rw [hM7]; exact keep_wi
  have i0 := (show mi M7 th 0 = mi M6 th 0 by rw [hM7]; rw [mi_wi]; exact if_neg (fun z => absurd z.2 (by decide))).trans i0
  have i2 := (show mi M7 th 2 = mi M6 th 2 by rw [hM7]; rw [mi_wi]; exact if_neg (fun z => absurd z.2 (by decide))).trans i2
  have i3 := (show mi M7 th 3 = mi M6 th 3 by rw [hM7]; rw [mi_wi]; exact if_neg (fun z => absurd z.2 (by decide))).trans i3
  have i4 := (show mi M7 th 4 = mi M6 th 4 by rw [hM7]; rw [mi_wi]; exact if_neg (fun z => absurd z.2 (by decide))).trans i4
  have i5 := (show mi M7 th 5 = mi M6 th 5 by rw [hM7]; rw [mi_wi]; exact if_neg (fun z => absurd z.2 (by decide))).trans i5
  have i6 : mi M7 th 6 = (-1 : Int32) := by rw [hM7, mi_wi]; exact if_pos ⟨rfl, rfl⟩
  have i7 := (show mi M7 th 7 = mi M6 th 7 by rw [hM7]; rw [mi_wi]; exact if_neg (fun z => absurd z.2 (by decide))).trans i7
  have i9 := (show mi M7 th 9 = mi M6 th 9 by rw [hM7]; rw [mi_wi]; exact if_neg (fun z => absurd z.2 (by decide))).trans i9
  refine G_aload_n h dX7_init_43 (i := 0) rfl rfl rfl ?_
  refine G_iconst h dX7_init_44 (v := 0) (by decide) rfl ?_
  have hWc := hG.2.2.2.2.1 hW
  have hKo := hK
  have a1_o := a1
  have hKo_ne1 : q1 = th → False := fun z => absurd ((congrArg (eK E2) z).symm.trans a1.2.1) (by rw [hK.2]; decide)
  refine G_puti h (T := TX7) (N := 10) (ci := 6) (k := 7) rfl inG7 (lwg (List.mem_of_getElem? (i := 241) (by decide +kernel)) rfl) rfl (by decide) rfl (by decide) tyX7 tyX7_ok nmX7 rfl rfl dX7_init_45 (Or.inr rfl) hK rfl ?_
  obtain ⟨M8, hM8⟩ : ∃ z, z = wi M7 th 7 (0 : Int32) := ⟨_, rfl⟩
  rw [← hM8]
  have hG : Gr E M E2 M8 th := by rw [hM8]; exact gr_wi hG
  have hKp : Keep E2 M7 E2 M8 th := by rw [hM8]; exact keep_wi
  have i0 := (show mi M8 th 0 = mi M7 th 0 by rw [hM8]; rw [mi_wi]; exact if_neg (fun z => absurd z.2 (by decide))).trans i0
  have i2 := (show mi M8 th 2 = mi M7 th 2 by rw [hM8]; rw [mi_wi]; exact if_neg (fun z => absurd z.2 (by decide))).trans i2
  have i3 := (show mi M8 th 3 = mi M7 th 3 by rw [hM8]; rw [mi_wi]; exact if_neg (fun z => absurd z.2 (by decide))).trans i3
  have i4 := (show mi M8 th 4 = mi M7 th 4 by rw [hM8]; rw [mi_wi]; exact if_neg (fun z => absurd z.2 (by decide))).trans i4
  have i5 := (show mi M8 th 5 = mi M7 th 5 by rw [hM8]; rw [mi_wi]; exact if_neg (fun z => absurd z.2 (by decide))).trans i5
  have i6 := (show mi M8 th 6 = mi M7 th 6 by rw [hM8]; rw [mi_wi]; exact if_neg (fun z => absurd z.2 (by decide))).trans i6
  have i7 : mi M8 th 7 = (0 : Int32) := by rw [hM8, mi_wi]; exact if_pos ⟨rfl, rfl⟩
  have i9 := (show mi M8 th 9 = mi M7 th 9 by rw [hM8]; rw [mi_wi]; exact if_neg (fun z => absurd z.2 (by decide))).trans i9
  refine G_aload_n h dX7_init_48 (i := 0) rfl rfl rfl ?_
  refine G_bipush h dX7_init_49 (v := 8) (by decide) rfl ?_
  have hWc := hG.2.2.2.2.1 hW
  have hKo := hK
  have a1_o := a1
  have hKo_ne1 : q1 = th → False := fun z => absurd ((congrArg (eK E2) z).symm.trans a1.2.1) (by rw [hK.2]; decide)
  refine G_fldI (T := TX7) (N := 10) (ci := 6) (k := 8) rfl inG7 (lwg (List.mem_of_getElem? (i := 242) (by decide +kernel)) rfl) rfl (by decide) rfl (by decide) tyX7 tyX7_ok nmX7 rfl rfl (fun _ => rfl) (fun _ => rfl) h hI hG hth hK n8 (lwg (List.mem_of_getElem? (i := 144) (by decide +kernel)) rfl) (N' := 8) (by decide) (by decide) (Nat.le_of_ble_eq_true rfl) (Nat.le_of_ble_eq_true rfl) (Nat.le_of_ble_eq_true rfl) dX7_init_51 dX7_init_53 rfl (fun E9 M9 q8 h hG hKp hkp hK f8 hko a8 hq8 u8 u8l => ?_)
  have f1 := (hko 1 (by decide)).trans f1
  have a1 := hKp.A a1
  have i0 := (hkp 0).1.trans i0
  have i2 := (hkp 2).1.trans i2
  have i3 := (hkp 3).1.trans i3
  have i4 := (hkp 4).1.trans i4
  have i5 := (hkp 5).1.trans i5
  have i6 := (hkp 6).1.trans i6
  have i7 := (hkp 7).1.trans i7
  have i9 := (hkp 9).1.trans i9
  refine G_aload_n h dX7_init_56 (i := 0) rfl rfl rfl ?_
  refine G_iconst h dX7_init_57 (v := 0) (by decide) rfl ?_
  have hWc := hG.2.2.2.2.1 hW
  have hKo := hK
  have a1_o := a1
  have hKo_ne1 : q1 = th → False := fun z => absurd ((congrArg (eK E9) z).symm.trans a1.2.1) (by rw [hK.2]; decide)
  have a8_o := a8
  have hKo_ne8 : q8 = th → False := fun z => absurd ((congrArg (eK E9) z).symm.trans a8.2.1) (by rw [hK.2]; decide)
  refine G_puti h (T := TX7) (N := 10) (ci := 6) (k := 9) rfl inG7 (lwg (List.mem_of_getElem? (i := 243) (by decide +kernel)) rfl) rfl (by decide) rfl (by decide) tyX7 tyX7_ok nmX7 rfl rfl dX7_init_58 (Or.inr rfl) hK rfl ?_
  obtain ⟨M10, hM10⟩ : ∃ z, z = wi M9 th 9 (0 : Int32) := ⟨_, rfl⟩
  rw [← hM10]
  have hG : Gr E M E9 M10 th := by rw [hM10]; exact gr_wi hG
  have hKp : Keep E9 M9 E9 M10 th := by rw [hM10]; exact keep_wi
  have i0 := (show mi M10 th 0 = mi M9 th 0 by rw [hM10]; rw [mi_wi]; exact if_neg (fun z => absurd z.2 (by decide))).trans i0
  have i2 := (show mi M10 th 2 = mi M9 th 2 by rw [hM10]; rw [mi_wi]; exact if_neg (fun z => absurd z.2 (by decide))).trans i2
  have i3 := (show mi M10 th 3 = mi M9 th 3 by rw [hM10]; rw [mi_wi]; exact if_neg (fun z => absurd z.2 (by decide))).trans i3
  have i4 := (show mi M10 th 4 = mi M9 th 4 by rw [hM10]; rw [mi_wi]; exact if_neg (fun z => absurd z.2 (by decide))).trans i4
  have i5 := (show mi M10 th 5 = mi M9 th 5 by rw [hM10]; rw [mi_wi]; exact if_neg (fun z => absurd z.2 (by decide))).trans i5
  have i6 := (show mi M10 th 6 = mi M9 th 6 by rw [hM10]; rw [mi_wi]; exact if_neg (fun z => absurd z.2 (by decide))).trans i6
  have i7 := (show mi M10 th 7 = mi M9 th 7 by rw [hM10]; rw [mi_wi]; exact if_neg (fun z => absurd z.2 (by decide))).trans i7
  have i9 : mi M10 th 9 = (0 : Int32) := by rw [hM10, mi_wi]; exact if_pos ⟨rfl, rfl⟩
  have hGm := gr_mark (c := 6) hG hK.1 (Or.inl rfl) (by rw [hK.2]; omega) (fun e he => by
      simp only [rqT, List.mem_cons, List.not_mem_nil, or_false] at he
      rcases he with rfl | rfl
      · exact okA f1 a1
      · exact okA f8 a8) (fun z => absurd z (by decide))
  refine G_mark (q := th) (c := 6) hK.2 (Or.inl (by decide)) (WM_setK (by rw [hK.2]; omega) (by decide)) ?_
  exact hR _ _ _ _ dX7_init_61 hGm.1 ⟨hGm, ⟨hK.1, va_up_self _ _ _⟩, i0⟩
set_option maxRecDepth 100000 in
set_option maxHeartbeats 8000000 in
theorem ok_init_X8 (l0 : Launch) {E : Env1} {M : Mem} {th : Nat} (hW : WFt E) (hK : isK E th (20 + 7)) (hr : ∀ k, eR E th k = none) (hi : ∀ j, mi M th j = 0) (hl : ∀ j, ml M th j = 0) : Met l0 yX8_init (wsA yX8_init cX8_init 2 none) rm_X8_init (CP E M [.ref th]) (CQn E (fun E' M' => Gr E M E' M' th ∧ isK E' th 7 ∧ Sm0 E' M' th)) 201 2065 (eA E) := by
  have hG : Gr E M E M th := gr_rf hr
  have hth : th ∈ eL E := hK.1
  have n0 := hr 0
  have n1 := hr 1
  have n2 := hr 2
  have n3 := hr 3
  have n4 := hr 4
  have n5 := hr 5
  have i8 := hi 8
  have i9 := hi 9
  have i10 := hi 10
  have l6 := hl 6
  have l7 := hl 7
  refine mtC l0 (by decide +kernel) rfl (Nat.le_of_ble_eq_true rfl) (L0 := [some (.ref th), none]) rfl (fun X h hI hR => ?_)
  have h : Cx X l0 E RX8 cX8_init none 2 rm_X8_init := h
  refine G_aload_n h dX8_init_0 (i := 0) rfl rfl rfl ?_
  refine G_objInit h (lwg (List.mem_of_getElem? (i := 96) (by decide +kernel)) rfl) (lwg (List.mem_of_getElem? (i := 97) (by decide +kernel)) rfl) (lwg (List.mem_of_getElem? (i := 98) (by decide +kernel)) rfl) dX8_init_1 rfl (Nat.le_of_ble_eq_true rfl) (Nat.le_of_ble_eq_true rfl) ?_
  refine G_aload_n h dX8_init_4 (i := 0) rfl rfl rfl ?_
  have hWc := hG.2.2.2.2.1 hW
  have hKo := hK
  refine G_fldO (T := TX8) (N := 11) (ci := 7) (k := 0) rfl inG8 (lwg (List.mem_of_getElem? (i := 288) (by decide +kernel)) rfl) rfl (by decide) rfl (by decide) tyX8 tyX8_ok nmX8 rfl rfl (fun _ => rfl) (fun _ => rfl) h hI hG hth hK n0 (C2 := RX0) (T2 := TX0) (N2 := 11) (c2 := 0) rfl (by decide) inG0 tyX0 tyX0_ok (by intro j hj; (rcases (show j = 0 ∨ j = 1 ∨ j = 2 ∨ j = 3 ∨ j = 4 ∨ j = 5 ∨ j = 6 ∨ j = 7 ∨ j = 8 ∨ j = 9 ∨ j = 10 by omega) with rfl | rfl | rfl | rfl | rfl | rfl | rfl | rfl | rfl | rfl | rfl) <;> rfl) (lwg (List.mem_of_getElem? (i := 99) (by decide +kernel)) rfl) (lwg (List.mem_of_getElem? (i := 100) (by decide +kernel)) rfl) (lwg (List.mem_of_getElem? (i := 76) (by decide +kernel)) rfl) (y := yX0_init) (Ini := Ho0) (fun E2 M2 q a1 a2 a3 a4 a5 => ok_init_X0 l0 a1 a2 a3 a4 a5) Ho0_k rfl ⟨by decide +kernel, by decide +kernel, by decide +kernel⟩ (lwg (List.mem_of_getElem? (i := 101) (by decide +kernel)) rfl) (lwg (List.mem_of_getElem? (i := 102) (by decide +kernel)) rfl) (lwg (List.mem_of_getElem? (i := 76) (by decide +kernel)) rfl) (lwg (List.mem_of_getElem? (i := 103) (by decide +kernel)) rfl) ⟨rfl, rfl, (Nat.le_of_ble_eq_true rfl), (Nat.le_of_ble_eq_true rfl)⟩ hW (Nat.le_of_ble_eq_true rfl) (Nat.le_of_ble_eq_true rfl) (Nat.le_of_ble_eq_true rfl) dX8_init_5 dX8_init_8 dX8_init_9 dX8_init_12 rfl (fun E1 M1 q0 h hG hKp hkp hK f0 hko a0 hq0 z0 hW0 => ?_)
  have n1 := (hko 1 (by decide)).trans n1
  have n2 := (hko 2 (by decide)).trans n2
  have n3 := (hko 3 (by decide)).trans n3
  have n4 := (hko 4 (by decide)).trans n4
  have n5 := (hko 5 (by decide)).trans n5
  have i8 := (hkp 8).1.trans i8
  have i9 := (hkp 9).1.trans i9
  have i10 := (hkp 10).1.trans i10
  have l6 := (hkp 6).2.trans l6
  have l7 := (hkp 7).2.trans l7
  refine G_aload_n h dX8_init_15 (i := 0) rfl rfl rfl ?_
  have hWc := hG.2.2.2.2.1 hW
  have hKo := hK
  refine G_fldO (T := TX8) (N := 11) (ci := 7) (k := 1) rfl inG8 (lwg (List.mem_of_getElem? (i := 289) (by decide +kernel)) rfl) rfl (by decide) rfl (by decide) tyX8 tyX8_ok nmX8 rfl rfl (fun _ => rfl) (fun _ => rfl) h hI hG hth hK n1 (C2 := RX0) (T2 := TX0) (N2 := 11) (c2 := 0) rfl (by decide) inG0 tyX0 tyX0_ok (by intro j hj; (rcases (show j = 0 ∨ j = 1 ∨ j = 2 ∨ j = 3 ∨ j = 4 ∨ j = 5 ∨ j = 6 ∨ j = 7 ∨ j = 8 ∨ j = 9 ∨ j = 10 by omega) with rfl | rfl | rfl | rfl | rfl | rfl | rfl | rfl | rfl | rfl | rfl) <;> rfl) (lwg (List.mem_of_getElem? (i := 99) (by decide +kernel)) rfl) (lwg (List.mem_of_getElem? (i := 100) (by decide +kernel)) rfl) (lwg (List.mem_of_getElem? (i := 76) (by decide +kernel)) rfl) (y := yX0_init) (Ini := Ho0) (fun E2 M2 q a1 a2 a3 a4 a5 => ok_init_X0 l0 a1 a2 a3 a4 a5) Ho0_k rfl ⟨by decide +kernel, by decide +kernel, by decide +kernel⟩ (lwg (List.mem_of_getElem? (i := 101) (by decide +kernel)) rfl) (lwg (List.mem_of_getElem? (i := 102) (by decide +kernel)) rfl) (lwg (List.mem_of_getElem? (i := 76) (by decide +kernel)) rfl) (lwg (List.mem_of_getElem? (i := 103) (by decide +kernel)) rfl) ⟨rfl, rfl, (Nat.le_of_ble_eq_true rfl), (Nat.le_of_ble_eq_true rfl)⟩ hW (Nat.le_of_ble_eq_true rfl) (Nat.le_of_ble_eq_true rfl) (Nat.le_of_ble_eq_true rfl) dX8_init_16 dX8_init_19 dX8_init_20 dX8_init_23 rfl (fun E2 M2 q1 h hG hKp hkp hK f1 hko a1 hq1 z1 hW1 => ?_)
  have z0 := Ho0_k _ _ _ _ th _ hWc a0 (by rw [hKo.2]; omega) hKp z0
  have f0 := (hko 0 (by decide)).trans f0
  have a0 := hKp.K a0
  have n2 := (hko 2 (by decide)).trans n2
  have n3 := (hko 3 (by decide)).trans n3
  have n4 := (hko 4 (by decide)).trans n4
  have n5 := (hko 5 (by decide)).trans n5
  have i8 := (hkp 8).1.trans i8
  have i9 := (hkp 9).1.trans i9
  have i10 := (hkp 10).1.trans i10
  have l6 := (hkp 6).2.trans l6
  have l7 := (hkp 7).2.trans l7
  refine G_aload_n h dX8_init_26 (i := 0) rfl rfl rfl ?_
  refine G_iconst h dX8_init_27 (v := 2) (by decide) rfl ?_
  have hWc := hG.2.2.2.2.1 hW
  have hKo := hK
  have hGb := hG
  refine G_fldH (T := TX8) (N := 11) (ci := 7) (k := 2) rfl inG8 (lwg (List.mem_of_getElem? (i := 290) (by decide +kernel)) rfl) rfl (by decide) rfl (by decide) tyX8 tyX8_ok nmX8 rfl rfl (fun _ => rfl) (fun _ => rfl) h hI hG hth hK n2 (lwg (List.mem_of_getElem? (i := 99) (by decide +kernel)) rfl) (N' := 2) (by decide) (by decide) (Nat.le_of_ble_eq_true rfl) (Nat.le_of_ble_eq_true rfl) (Nat.le_of_ble_eq_true rfl) dX8_init_28 dX8_init_31 rfl (fun E3 M3 q2 h hG hKp hkp hK f2 hko a2 hq2 u2 => ?_)
  have z0 := Ho0_k _ _ _ _ th _ hWc a0 (by rw [hKo.2]; omega) hKp z0
  have f0 := (hko 0 (by decide)).trans f0
  have a0 := hKp.K a0
  have z1 := Ho0_k _ _ _ _ th _ hWc a1 (by rw [hKo.2]; omega) hKp z1
  have f1 := (hko 1 (by decide)).trans f1
  have a1 := hKp.K a1
  have n3 := (hko 3 (by decide)).trans n3
  have n4 := (hko 4 (by decide)).trans n4
  have n5 := (hko 5 (by decide)).trans n5
  have i8 := (hkp 8).1.trans i8
  have i9 := (hkp 9).1.trans i9
  have i10 := (hkp 10).1.trans i10
  have l6 := (hkp 6).2.trans l6
  have l7 := (hkp 7).2.trans l7
  have t2_0 := u2 0
  have t2_1 := u2 1
  have hq2_0 : q2 ∉ eL E := fun z => hq2 (hGb.2.1 _ z).1
  refine G_iconst h dX8_init_34 (v := 0) (by decide) rfl ?_
  refine G_istore_n h dX8_init_35 (i := 1) rfl (by decide) (L' := [some (.ref th), some (.int 0)]) rfl rfl ?_
  refine G_iload_n h dX8_init_36 (i := 1) rfl rfl rfl ?_
  refine G_iconst h dX8_init_37 (v := 2) (by decide) rfl ?_
  refine G_icmp_ge h dX8_init_38 (tgt := 60) (by decide) rfl (fun c => absurd c (by decide)) (fun _ => ?_)
  refine G_aload_n h dX8_init_41 (i := 0) rfl rfl rfl ?_
  refine G_getr h (T := TX8) (N := 11) (ci := 7) (k := 2) rfl inG8 (lwg (List.mem_of_getElem? (i := 290) (by decide +kernel)) rfl) rfl (by decide) rfl (by decide) dX8_init_42 (Or.inr rfl) hK (by rw [rr_of f2]; exact f2) rfl ?_
  rw [rr_of f2]
  refine G_iload_n h dX8_init_45 (i := 1) rfl rfl rfl ?_
  have hWc := hG.2.2.2.2.1 hW
  have hKo := hK
  have a2_o := a2
  have hKo_ne2 : q2 = th → False := fun z => absurd ((congrArg (eK E3) z).symm.trans a2.2.1) (by rw [hK.2]; decide)
  have hAn : q2 ∉ eL E := fun z => hq2_0 z
  refine G_eltH (E := E) (M := M) (th := th) h hG hth a2 hAn (vi_lit (by decide)) (jx := 0) (by decide) t2_0 (C2 := RX0) (T2 := TX0) (N2 := 11) rfl inG0 tyX0 tyX0_ok (by intro j hj; (rcases (show j = 0 ∨ j = 1 ∨ j = 2 ∨ j = 3 ∨ j = 4 ∨ j = 5 ∨ j = 6 ∨ j = 7 ∨ j = 8 ∨ j = 9 ∨ j = 10 by omega) with rfl | rfl | rfl | rfl | rfl | rfl | rfl | rfl | rfl | rfl | rfl) <;> rfl) (lwg (List.mem_of_getElem? (i := 99) (by decide +kernel)) rfl) (lwg (List.mem_of_getElem? (i := 100) (by decide +kernel)) rfl) (lwg (List.mem_of_getElem? (i := 76) (by decide +kernel)) rfl) (y := yX0_init) (Ini := Ho0) (fun E2 M2 q a1 a2 a3 a4 a5 => ok_init_X0 l0 a1 a2 a3 a4 a5) Ho0_k rfl ⟨by decide +kernel, by decide +kernel, by decide +kernel⟩ (lwg (List.mem_of_getElem? (i := 101) (by decide +kernel)) rfl) (lwg (List.mem_of_getElem? (i := 102) (by decide +kernel)) rfl) (lwg (List.mem_of_getElem? (i := 76) (by decide +kernel)) rfl) (lwg (List.mem_of_getElem? (i := 103) (by decide +kernel)) rfl) ⟨rfl, rfl, (Nat.le_of_ble_eq_true rfl), (Nat.le_of_ble_eq_true rfl)⟩ hW (Nat.le_of_ble_eq_true rfl) (Nat.le_of_ble_eq_true rfl) (Nat.le_of_ble_eq_true rfl) dX8_init_46 dX8_init_49 dX8_init_50 dX8_init_53 rfl (fun E4 M4 p2_0 h hG hKp aN e2_0 heo  k2_0 hqn hz hWn => ?_)
  have hthne : th ≠ q2 := fun z => hKo_ne2 z.symm
  have hko := ((hKp th hKo.1).2.2.2 hthne).1
  have hK := hKp.K hKo
  have z0 := Ho0_k _ _ _ _ q2 _ hWc a0 (by rw [a2_o.2.1]; omega) hKp z0
  have f0 := (hko 0).trans f0
  have a0 := hKp.K a0
  have z1 := Ho0_k _ _ _ _ q2 _ hWc a1 (by rw [a2_o.2.1]; omega) hKp z1
  have f1 := (hko 1).trans f1
  have a1 := hKp.K a1
  have f2 := (hko 2).trans f2
  have a2 := aN
  have t2_1 := (heo 1 (by decide)).trans t2_1
  have n3 := (hko 3).trans n3
  have n4 := (hko 4).trans n4
  have n5 := (hko 5).trans n5
  have i8 := (((hKp th hKo.1).2.2.2 hthne).2.2.1 8).trans i8
  have i9 := (((hKp th hKo.1).2.2.2 hthne).2.2.1 9).trans i9
  have i10 := (((hKp th hKo.1).2.2.2 hthne).2.2.1 10).trans i10
  have l6 := (((hKp th hKo.1).2.2.2 hthne).2.2.2 6).trans l6
  have l7 := (((hKp th hKo.1).2.2.2 hthne).2.2.2 7).trans l7
  refine G_iinc2 h dX8_init_54 rfl ki_1 (by decide) (L' := [some (.ref th), some (.int 1)]) rfl rfl ?_
  refine G_goto h dX8_init_57 (tgt := 36) (by decide) ?_
  refine G_iload_n h dX8_init_36 (i := 1) rfl rfl rfl ?_
  refine G_iconst h dX8_init_37 (v := 2) (by decide) rfl ?_
  refine G_icmp_ge h dX8_init_38 (tgt := 60) (by decide) rfl (fun c => absurd c (by decide)) (fun _ => ?_)
  refine G_aload_n h dX8_init_41 (i := 0) rfl rfl rfl ?_
  refine G_getr h (T := TX8) (N := 11) (ci := 7) (k := 2) rfl inG8 (lwg (List.mem_of_getElem? (i := 290) (by decide +kernel)) rfl) rfl (by decide) rfl (by decide) dX8_init_42 (Or.inr rfl) hK (by rw [rr_of f2]; exact f2) rfl ?_
  rw [rr_of f2]
  refine G_iload_n h dX8_init_45 (i := 1) rfl rfl rfl ?_
  have hWc := hG.2.2.2.2.1 hW
  have hKo := hK
  have a2_o := a2
  have hKo_ne2 : q2 = th → False := fun z => absurd ((congrArg (eK E4) z).symm.trans a2.2.1) (by rw [hK.2]; decide)
  have hAn : q2 ∉ eL E := fun z => hq2_0 z
  refine G_eltH (E := E) (M := M) (th := th) h hG hth a2 hAn (vi_lit (by decide)) (jx := 1) (by decide) t2_1 (C2 := RX0) (T2 := TX0) (N2 := 11) rfl inG0 tyX0 tyX0_ok (by intro j hj; (rcases (show j = 0 ∨ j = 1 ∨ j = 2 ∨ j = 3 ∨ j = 4 ∨ j = 5 ∨ j = 6 ∨ j = 7 ∨ j = 8 ∨ j = 9 ∨ j = 10 by omega) with rfl | rfl | rfl | rfl | rfl | rfl | rfl | rfl | rfl | rfl | rfl) <;> rfl) (lwg (List.mem_of_getElem? (i := 99) (by decide +kernel)) rfl) (lwg (List.mem_of_getElem? (i := 100) (by decide +kernel)) rfl) (lwg (List.mem_of_getElem? (i := 76) (by decide +kernel)) rfl) (y := yX0_init) (Ini := Ho0) (fun E2 M2 q a1 a2 a3 a4 a5 => ok_init_X0 l0 a1 a2 a3 a4 a5) Ho0_k rfl ⟨by decide +kernel, by decide +kernel, by decide +kernel⟩ (lwg (List.mem_of_getElem? (i := 101) (by decide +kernel)) rfl) (lwg (List.mem_of_getElem? (i := 102) (by decide +kernel)) rfl) (lwg (List.mem_of_getElem? (i := 76) (by decide +kernel)) rfl) (lwg (List.mem_of_getElem? (i := 103) (by decide +kernel)) rfl) ⟨rfl, rfl, (Nat.le_of_ble_eq_true rfl), (Nat.le_of_ble_eq_true rfl)⟩ hW (Nat.le_of_ble_eq_true rfl) (Nat.le_of_ble_eq_true rfl) (Nat.le_of_ble_eq_true rfl) dX8_init_46 dX8_init_49 dX8_init_50 dX8_init_53 rfl (fun E5 M5 p2_1 h hG hKp aN e2_1 heo  k2_1 hqn hz hWn => ?_)
  have hthne : th ≠ q2 := fun z => hKo_ne2 z.symm
  have hko := ((hKp th hKo.1).2.2.2 hthne).1
  have hK := hKp.K hKo
  have z0 := Ho0_k _ _ _ _ q2 _ hWc a0 (by rw [a2_o.2.1]; omega) hKp z0
  have f0 := (hko 0).trans f0
  have a0 := hKp.K a0
  have z1 := Ho0_k _ _ _ _ q2 _ hWc a1 (by rw [a2_o.2.1]; omega) hKp z1
  have f1 := (hko 1).trans f1
  have a1 := hKp.K a1
  have f2 := (hko 2).trans f2
  have a2 := aN
  have e2_0 := (heo 0 (by decide)).trans e2_0
  have k2_0 := hKp.K k2_0
  have n3 := (hko 3).trans n3
  have n4 := (hko 4).trans n4
  have n5 := (hko 5).trans n5
  have i8 := (((hKp th hKo.1).2.2.2 hthne).2.2.1 8).trans i8
  have i9 := (((hKp th hKo.1).2.2.2 hthne).2.2.1 9).trans i9
  have i10 := (((hKp th hKo.1).2.2.2 hthne).2.2.1 10).trans i10
  have l6 := (((hKp th hKo.1).2.2.2 hthne).2.2.2 6).trans l6
  have l7 := (((hKp th hKo.1).2.2.2 hthne).2.2.2 7).trans l7
  refine G_iinc2 h dX8_init_54 rfl ki_1 (by decide) (L' := [some (.ref th), some (.int 2)]) rfl rfl ?_
  refine G_goto h dX8_init_57 (tgt := 36) (by decide) ?_
  refine G_iload_n h dX8_init_36 (i := 1) rfl rfl rfl ?_
  refine G_iconst h dX8_init_37 (v := 2) (by decide) rfl ?_
  refine G_icmp_ge h dX8_init_38 (tgt := 60) (by decide) rfl (fun _ => ?_) (fun c => absurd (by decide) c)
  refine G_aload_n h dX8_init_60 (i := 0) rfl rfl rfl ?_
  refine G_iconst h dX8_init_61 (v := 2) (by decide) rfl ?_
  have hWc := hG.2.2.2.2.1 hW
  have hKo := hK
  have a2_o := a2
  have hKo_ne2 : q2 = th → False := fun z => absurd ((congrArg (eK E5) z).symm.trans a2.2.1) (by rw [hK.2]; decide)
  refine G_fldZ (T := TX8) (N := 11) (ci := 7) (k := 3) rfl inG8 (lwg (List.mem_of_getElem? (i := 291) (by decide +kernel)) rfl) rfl (by decide) rfl (by decide) tyX8 tyX8_ok nmX8 rfl rfl (fun _ => rfl) (fun _ => rfl) h hI hG hth hK n3 (lwg (List.mem_of_getElem? (i := 265) (by decide +kernel)) rfl) (N' := 2) (by decide) (by decide) (Nat.le_of_ble_eq_true rfl) (Nat.le_of_ble_eq_true rfl) (Nat.le_of_ble_eq_true rfl) dX8_init_62 dX8_init_64 rfl (fun E6 M6 q3 h hG hKp hkp hK f3 hko a3 hq3 u3 u3l => ?_)
  have z0 := Ho0_k _ _ _ _ th _ hWc a0 (by rw [hKo.2]; omega) hKp z0
  have f0 := (hko 0 (by decide)).trans f0
  have a0 := hKp.K a0
  have z1 := Ho0_k _ _ _ _ th _ hWc a1 (by rw [hKo.2]; omega) hKp z1
  have f1 := (hko 1 (by decide)).trans f1
  have a1 := hKp.K a1
  have f2 := (hko 2 (by decide)).trans f2
  have a2 := hKp.A a2
  have e2_0 := (((hKp _ a2_o.1).2.2.2 (fun z => hKo_ne2 z)).1 0).trans e2_0
  have k2_0 := hKp.K k2_0
  have e2_1 := (((hKp _ a2_o.1).2.2.2 (fun z => hKo_ne2 z)).1 1).trans e2_1
  have k2_1 := hKp.K k2_1
  have n4 := (hko 4 (by decide)).trans n4
  have n5 := (hko 5 (by decide)).trans n5
  have i8 := (hkp 8).1.trans i8
  have i9 := (hkp 9).1.trans i9
  have i10 := (hkp 10).1.trans i10
  have l6 := (hkp 6).2.trans l6
  have l7 := (hkp 7).2.trans l7
  have v3_0 := u3 0
  have v3_1 := u3 1
  refine G_aload_n h dX8_init_67 (i := 0) rfl rfl rfl ?_
  have hWc := hG.2.2.2.2.1 hW
  have hKo := hK
  have a2_o := a2
  have hKo_ne2 : q2 = th → False := fun z => absurd ((congrArg (eK E6) z).symm.trans a2.2.1) (by rw [hK.2]; decide)
  have a3_o := a3
  have hKo_ne3 : q3 = th → False := fun z => absurd ((congrArg (eK E6) z).symm.trans a3.2.1) (by rw [hK.2]; decide)
  refine G_fldO (T := TX8) (N := 11) (ci := 7) (k := 4) rfl inG8 (lwg (List.mem_of_getElem? (i := 292) (by decide +kernel)) rfl) rfl (by decide) rfl (by decide) tyX8 tyX8_ok nmX8 rfl rfl (fun _ => rfl) (fun _ => rfl) h hI hG hth hK n4 (C2 := RX7) (T2 := TX7) (N2 := 10) (c2 := 6) rfl (by decide) inG7 tyX7 tyX7_ok (by intro j hj; (rcases (show j = 0 ∨ j = 1 ∨ j = 2 ∨ j = 3 ∨ j = 4 ∨ j = 5 ∨ j = 6 ∨ j = 7 ∨ j = 8 ∨ j = 9 by omega) with rfl | rfl | rfl | rfl | rfl | rfl | rfl | rfl | rfl | rfl) <;> rfl) (lwg (List.mem_of_getElem? (i := 227) (by decide +kernel)) rfl) (lwg (List.mem_of_getElem? (i := 228) (by decide +kernel)) rfl) (lwg (List.mem_of_getElem? (i := 82) (by decide +kernel)) rfl) (y := yX7_init) (Ini := Rw0) (fun E2 M2 q a1 a2 a3 a4 a5 => ok_init_X7 l0 a1 a2 a3 a4 a5) Rw6_k rfl ⟨by decide +kernel, by decide +kernel, by decide +kernel⟩ (lwg (List.mem_of_getElem? (i := 229) (by decide +kernel)) rfl) (lwg (List.mem_of_getElem? (i := 230) (by decide +kernel)) rfl) (lwg (List.mem_of_getElem? (i := 82) (by decide +kernel)) rfl) (lwg (List.mem_of_getElem? (i := 231) (by decide +kernel)) rfl) ⟨rfl, rfl, (Nat.le_of_ble_eq_true rfl), (Nat.le_of_ble_eq_true rfl)⟩ hW (Nat.le_of_ble_eq_true rfl) (Nat.le_of_ble_eq_true rfl) (Nat.le_of_ble_eq_true rfl) dX8_init_68 dX8_init_71 dX8_init_72 dX8_init_75 rfl (fun E7 M7 q4 h hG hKp hkp hK f4 hko a4 hq4 z4 hW4 => ?_)
  have z0 := Ho0_k _ _ _ _ th _ hWc a0 (by rw [hKo.2]; omega) hKp z0
  have f0 := (hko 0 (by decide)).trans f0
  have a0 := hKp.K a0
  have z1 := Ho0_k _ _ _ _ th _ hWc a1 (by rw [hKo.2]; omega) hKp z1
  have f1 := (hko 1 (by decide)).trans f1
  have a1 := hKp.K a1
  have f2 := (hko 2 (by decide)).trans f2
  have a2 := hKp.A a2
  have e2_0 := (((hKp _ a2_o.1).2.2.2 (fun z => hKo_ne2 z)).1 0).trans e2_0
  have k2_0 := hKp.K k2_0
  have e2_1 := (((hKp _ a2_o.1).2.2.2 (fun z => hKo_ne2 z)).1 1).trans e2_1
  have k2_1 := hKp.K k2_1
  have f3 := (hko 3 (by decide)).trans f3
  have a3 := hKp.A a3
  have v3_0 := (((hKp _ a3_o.1).2.2.2 (fun z => hKo_ne3 z)).2.2.1 0).trans v3_0
  have v3_1 := (((hKp _ a3_o.1).2.2.2 (fun z => hKo_ne3 z)).2.2.1 1).trans v3_1
  have n5 := (hko 5 (by decide)).trans n5
  have i8 := (hkp 8).1.trans i8
  have i9 := (hkp 9).1.trans i9
  have i10 := (hkp 10).1.trans i10
  have l6 := (hkp 6).2.trans l6
  have l7 := (hkp 7).2.trans l7
  refine G_aload_n h dX8_init_78 (i := 0) rfl rfl rfl ?_
  have hWc := hG.2.2.2.2.1 hW
  have hKo := hK
  have a2_o := a2
  have hKo_ne2 : q2 = th → False := fun z => absurd ((congrArg (eK E7) z).symm.trans a2.2.1) (by rw [hK.2]; decide)
  have a3_o := a3
  have hKo_ne3 : q3 = th → False := fun z => absurd ((congrArg (eK E7) z).symm.trans a3.2.1) (by rw [hK.2]; decide)
  refine G_fldO (T := TX8) (N := 11) (ci := 7) (k := 5) rfl inG8 (lwg (List.mem_of_getElem? (i := 293) (by decide +kernel)) rfl) rfl (by decide) rfl (by decide) tyX8 tyX8_ok nmX8 rfl rfl (fun _ => rfl) (fun _ => rfl) h hI hG hth hK n5 (C2 := RX3) (T2 := TX3) (N2 := 5) (c2 := 2) rfl (by decide) inG3 tyX3 tyX3_ok (by intro j hj; (rcases (show j = 0 ∨ j = 1 ∨ j = 2 ∨ j = 3 ∨ j = 4 by omega) with rfl | rfl | rfl | rfl | rfl) <;> rfl) (lwg (List.mem_of_getElem? (i := 266) (by decide +kernel)) rfl) (lwg (List.mem_of_getElem? (i := 267) (by decide +kernel)) rfl) (lwg (List.mem_of_getElem? (i := 83) (by decide +kernel)) rfl) (y := yX3_init) (Ini := Tr0) (fun E2 M2 q a1 a2 a3 a4 a5 => ok_init_X3 l0 a1 a2 a3 a4 a5) Tr0_k rfl ⟨by decide +kernel, by decide +kernel, by decide +kernel⟩ (lwg (List.mem_of_getElem? (i := 268) (by decide +kernel)) rfl) (lwg (List.mem_of_getElem? (i := 269) (by decide +kernel)) rfl) (lwg (List.mem_of_getElem? (i := 83) (by decide +kernel)) rfl) (lwg (List.mem_of_getElem? (i := 270) (by decide +kernel)) rfl) ⟨rfl, rfl, (Nat.le_of_ble_eq_true rfl), (Nat.le_of_ble_eq_true rfl)⟩ hW (Nat.le_of_ble_eq_true rfl) (Nat.le_of_ble_eq_true rfl) (Nat.le_of_ble_eq_true rfl) dX8_init_79 dX8_init_82 dX8_init_83 dX8_init_86 rfl (fun E8 M8 q5 h hG hKp hkp hK f5 hko a5 hq5 z5 hW5 => ?_)
  have z0 := Ho0_k _ _ _ _ th _ hWc a0 (by rw [hKo.2]; omega) hKp z0
  have f0 := (hko 0 (by decide)).trans f0
  have a0 := hKp.K a0
  have z1 := Ho0_k _ _ _ _ th _ hWc a1 (by rw [hKo.2]; omega) hKp z1
  have f1 := (hko 1 (by decide)).trans f1
  have a1 := hKp.K a1
  have f2 := (hko 2 (by decide)).trans f2
  have a2 := hKp.A a2
  have e2_0 := (((hKp _ a2_o.1).2.2.2 (fun z => hKo_ne2 z)).1 0).trans e2_0
  have k2_0 := hKp.K k2_0
  have e2_1 := (((hKp _ a2_o.1).2.2.2 (fun z => hKo_ne2 z)).1 1).trans e2_1
  have k2_1 := hKp.K k2_1
  have f3 := (hko 3 (by decide)).trans f3
  have a3 := hKp.A a3
  have v3_0 := (((hKp _ a3_o.1).2.2.2 (fun z => hKo_ne3 z)).2.2.1 0).trans v3_0
  have v3_1 := (((hKp _ a3_o.1).2.2.2 (fun z => hKo_ne3 z)).2.2.1 1).trans v3_1
  have z4 := Rw6_k _ _ _ _ th _ hWc a4 (by rw [hKo.2]; omega) hKp z4
  have f4 := (hko 4 (by decide)).trans f4
  have a4 := hKp.K a4
  have i8 := (hkp 8).1.trans i8
  have i9 := (hkp 9).1.trans i9
  have i10 := (hkp 10).1.trans i10
  have l6 := (hkp 6).2.trans l6
  have l7 := (hkp 7).2.trans l7
  refine G_aload_n h dX8_init_89 (i := 0) rfl rfl rfl ?_
  refine G_lconst h dX8_init_90 (v := 0) (by decide) rfl ?_
  have hWc := hG.2.2.2.2.1 hW
  have hKo := hK
  have a2_o := a2
  have hKo_ne2 : q2 = th → False := fun z => absurd ((congrArg (eK E8) z).symm.trans a2.2.1) (by rw [hK.2]; decide)
  have a3_o := a3
  have hKo_ne3 : q3 = th → False := fun z => absurd ((congrArg (eK E8) z).symm.trans a3.2.1) (by rw [hK.2]; decide)
  refine G_putl h (T := TX8) (N := 11) (ci := 7) (k := 6) rfl inG8 (lwg (List.mem_of_getElem? (i := 294) (by decide +kernel)) rfl) rfl (by decide) rfl (by decide) tyX8 tyX8_ok nmX8 rfl rfl dX8_init_91 (Or.inr rfl) hK rfl ?_
  obtain ⟨M9, hM9⟩ : ∃ z, z = wl M8 th 6 (0 : Int64) := ⟨_, rfl⟩
  rw [← hM9]
  have hG : Gr E M E8 M9 th := by rw [hM9]; exact gr_wl hG
  have hKp : Keep E8 M8 E8 M9 th := by rw [hM9]; exact keep_wl
  have z0 := Ho0_k _ _ _ _ th _ hWc a0 (by rw [hKo.2]; omega) hKp z0
  have z1 := Ho0_k _ _ _ _ th _ hWc a1 (by rw [hKo.2]; omega) hKp z1
  have v3_0 := (((hKp _ a3_o.1).2.2.2 (fun z => hKo_ne3 z)).2.2.1 0).trans v3_0
  have v3_1 := (((hKp _ a3_o.1).2.2.2 (fun z => hKo_ne3 z)).2.2.1 1).trans v3_1
  have z4 := Rw6_k _ _ _ _ th _ hWc a4 (by rw [hKo.2]; omega) hKp z4
  have z5 := Tr0_k _ _ _ _ th _ hWc a5 (by rw [hKo.2]; omega) hKp z5
  have i8 := (show mi M9 th 8 = mi M8 th 8 by rw [hM9]; rfl).trans i8
  have i9 := (show mi M9 th 9 = mi M8 th 9 by rw [hM9]; rfl).trans i9
  have i10 := (show mi M9 th 10 = mi M8 th 10 by rw [hM9]; rfl).trans i10
  have l6 : ml M9 th 6 = (0 : Int64) := by rw [hM9, ml_wl]; exact if_pos ⟨rfl, rfl⟩
  have l7 := (show ml M9 th 7 = ml M8 th 7 by rw [hM9]; rw [ml_wl]; exact if_neg (fun z => absurd z.2 (by decide))).trans l7
  refine G_aload_n h dX8_init_94 (i := 0) rfl rfl rfl ?_
  refine G_lconst h dX8_init_95 (v := 1) (by decide) rfl ?_
  have hWc := hG.2.2.2.2.1 hW
  have hKo := hK
  have a2_o := a2
  have hKo_ne2 : q2 = th → False := fun z => absurd ((congrArg (eK E8) z).symm.trans a2.2.1) (by rw [hK.2]; decide)
  have a3_o := a3
  have hKo_ne3 : q3 = th → False := fun z => absurd ((congrArg (eK E8) z).symm.trans a3.2.1) (by rw [hK.2]; decide)
  refine G_putl h (T := TX8) (N := 11) (ci := 7) (k := 7) rfl inG8 (lwg (List.mem_of_getElem? (i := 295) (by decide +kernel)) rfl) rfl (by decide) rfl (by decide) tyX8 tyX8_ok nmX8 rfl rfl dX8_init_96 (Or.inr rfl) hK rfl ?_
  obtain ⟨M10, hM10⟩ : ∃ z, z = wl M9 th 7 (1 : Int64) := ⟨_, rfl⟩
  rw [← hM10]
  have hG : Gr E M E8 M10 th := by rw [hM10]; exact gr_wl hG
  have hKp : Keep E8 M9 E8 M10 th := by rw [hM10]; exact keep_wl
  have z0 := Ho0_k _ _ _ _ th _ hWc a0 (by rw [hKo.2]; omega) hKp z0
  have z1 := Ho0_k _ _ _ _ th _ hWc a1 (by rw [hKo.2]; omega) hKp z1
  have v3_0 := (((hKp _ a3_o.1).2.2.2 (fun z => hKo_ne3 z)).2.2.1 0).trans v3_0
  have v3_1 := (((hKp _ a3_o.1).2.2.2 (fun z => hKo_ne3 z)).2.2.1 1).trans v3_1
  have z4 := Rw6_k _ _ _ _ th _ hWc a4 (by rw [hKo.2]; omega) hKp z4
  have z5 := Tr0_k _ _ _ _ th _ hWc a5 (by rw [hKo.2]; omega) hKp z5
  have i8 := (show mi M10 th 8 = mi M9 th 8 by rw [hM10]; rfl).trans i8
  have i9 := (show mi M10 th 9 = mi M9 th 9 by rw [hM10]; rfl).trans i9
  have i10 := (show mi M10 th 10 = mi M9 th 10 by rw [hM10]; rfl).trans i10
  have l6 := (show ml M10 th 6 = ml M9 th 6 by rw [hM10]; rw [ml_wl]; exact if_neg (fun z => absurd z.2 (by decide))).trans l6
  have l7 : ml M10 th 7 = (1 : Int64) := by rw [hM10, ml_wl]; exact if_pos ⟨rfl, rfl⟩
  refine G_aload_n h dX8_init_99 (i := 0) rfl rfl rfl ?_
  refine G_iconst h dX8_init_100 (v := 0) (by decide) rfl ?_
  have hWc := hG.2.2.2.2.1 hW
  have hKo := hK
  have a2_o := a2
  have hKo_ne2 : q2 = th → False := fun z => absurd ((congrArg (eK E8) z).symm.trans a2.2.1) (by rw [hK.2]; decide)
  have a3_o := a3
  have hKo_ne3 : q3 = th → False := fun z => absurd ((congrArg (eK E8) z).symm.trans a3.2.1) (by rw [hK.2]; decide)
  refine G_puti h (T := TX8) (N := 11) (ci := 7) (k := 8) rfl inG8 (lwg (List.mem_of_getElem? (i := 296) (by decide +kernel)) rfl) rfl (by decide) rfl (by decide) tyX8 tyX8_ok nmX8 rfl rfl dX8_init_101 (Or.inr rfl) hK rfl ?_
  obtain ⟨M11, hM11⟩ : ∃ z, z = wi M10 th 8 (0 : Int32) := ⟨_, rfl⟩
  rw [← hM11]
  have hG : Gr E M E8 M11 th := by rw [hM11]; exact gr_wi hG
  have hKp : Keep E8 M10 E8 M11 th := by rw [hM11]; exact keep_wi
  have z0 := Ho0_k _ _ _ _ th _ hWc a0 (by rw [hKo.2]; omega) hKp z0
  have z1 := Ho0_k _ _ _ _ th _ hWc a1 (by rw [hKo.2]; omega) hKp z1
  have v3_0 := (((hKp _ a3_o.1).2.2.2 (fun z => hKo_ne3 z)).2.2.1 0).trans v3_0
  have v3_1 := (((hKp _ a3_o.1).2.2.2 (fun z => hKo_ne3 z)).2.2.1 1).trans v3_1
  have z4 := Rw6_k _ _ _ _ th _ hWc a4 (by rw [hKo.2]; omega) hKp z4
  have z5 := Tr0_k _ _ _ _ th _ hWc a5 (by rw [hKo.2]; omega) hKp z5
  have i8 : mi M11 th 8 = (0 : Int32) := by rw [hM11, mi_wi]; exact if_pos ⟨rfl, rfl⟩
  have i9 := (show mi M11 th 9 = mi M10 th 9 by rw [hM11]; rw [mi_wi]; exact if_neg (fun z => absurd z.2 (by decide))).trans i9
  have i10 := (show mi M11 th 10 = mi M10 th 10 by rw [hM11]; rw [mi_wi]; exact if_neg (fun z => absurd z.2 (by decide))).trans i10
  have l6 := (show ml M11 th 6 = ml M10 th 6 by rw [hM11]; rfl).trans l6
  have l7 := (show ml M11 th 7 = ml M10 th 7 by rw [hM11]; rfl).trans l7
  refine G_aload_n h dX8_init_104 (i := 0) rfl rfl rfl ?_
  refine G_iconst h dX8_init_105 (v := 0) (by decide) rfl ?_
  have hWc := hG.2.2.2.2.1 hW
  have hKo := hK
  have a2_o := a2
  have hKo_ne2 : q2 = th → False := fun z => absurd ((congrArg (eK E8) z).symm.trans a2.2.1) (by rw [hK.2]; decide)
  have a3_o := a3
  have hKo_ne3 : q3 = th → False := fun z => absurd ((congrArg (eK E8) z).symm.trans a3.2.1) (by rw [hK.2]; decide)
  refine G_puti h (T := TX8) (N := 11) (ci := 7) (k := 9) rfl inG8 (lwg (List.mem_of_getElem? (i := 297) (by decide +kernel)) rfl) rfl (by decide) rfl (by decide) tyX8 tyX8_ok nmX8 rfl rfl dX8_init_106 (Or.inr rfl) hK rfl ?_
  obtain ⟨M12, hM12⟩ : ∃ z, z = wi M11 th 9 (0 : Int32) := ⟨_, rfl⟩
  rw [← hM12]
  have hG : Gr E M E8 M12 th := by rw [hM12]; exact gr_wi hG
  have hKp : Keep E8 M11 E8 M12 th := by rw [hM12]; exact keep_wi
  have z0 := Ho0_k _ _ _ _ th _ hWc a0 (by rw [hKo.2]; omega) hKp z0
  have z1 := Ho0_k _ _ _ _ th _ hWc a1 (by rw [hKo.2]; omega) hKp z1
  have v3_0 := (((hKp _ a3_o.1).2.2.2 (fun z => hKo_ne3 z)).2.2.1 0).trans v3_0
  have v3_1 := (((hKp _ a3_o.1).2.2.2 (fun z => hKo_ne3 z)).2.2.1 1).trans v3_1
  have z4 := Rw6_k _ _ _ _ th _ hWc a4 (by rw [hKo.2]; omega) hKp z4
  have z5 := Tr0_k _ _ _ _ th _ hWc a5 (by rw [hKo.2]; omega) hKp z5
  have i8 := (show mi M12 th 8 = mi M11 th 8 by rw [hM12]; rw [mi_wi]; exact if_neg (fun z => absurd z.2 (by decide))).trans i8
  have i9 : mi M12 th 9 = (0 : Int32) := by rw [hM12, mi_wi]; exact if_pos ⟨rfl, rfl⟩
  have i10 := (show mi M12 th 10 = mi M11 th 10 by rw [hM12]; rw [mi_wi]; exact if_neg (fun z => absurd z.2 (by decide))).trans i10
  have l6 := (show ml M12 th 6 = ml M11 th 6 by rw [hM12]; rfl).trans l6
  have l7 := (show ml M12 th 7 = ml M11 th 7 by rw [hM12]; rfl).trans l7
  refine G_aload_n h dX8_init_109 (i := 0) rfl rfl rfl ?_
  refine G_iconst h dX8_init_110 (v := 0) (by decide) rfl ?_
  have hWc := hG.2.2.2.2.1 hW
  have hKo := hK
  have a2_o := a2
  have hKo_ne2 : q2 = th → False := fun z => absurd ((congrArg (eK E8) z).symm.trans a2.2.1) (by rw [hK.2]; decide)
  have a3_o := a3
  have hKo_ne3 : q3 = th → False := fun z => absurd ((congrArg (eK E8) z).symm.trans a3.2.1) (by rw [hK.2]; decide)
  refine G_puti h (T := TX8) (N := 11) (ci := 7) (k := 10) rfl inG8 (lwg (List.mem_of_getElem? (i := 298) (by decide +kernel)) rfl) rfl (by decide) rfl (by decide) tyX8 tyX8_ok nmX8 rfl rfl dX8_init_111 (Or.inr rfl) hK rfl ?_
  obtain ⟨M13, hM13⟩ : ∃ z, z = wi M12 th 10 (0 : Int32) := ⟨_, rfl⟩
  rw [← hM13]
  have hG : Gr E M E8 M13 th := by rw [hM13]; exact gr_wi hG
  have hKp : Keep E8 M12 E8 M13 th := by rw [hM13]; exact keep_wi
  have z0 := Ho0_k _ _ _ _ th _ hWc a0 (by rw [hKo.2]; omega) hKp z0
  have z1 := Ho0_k _ _ _ _ th _ hWc a1 (by rw [hKo.2]; omega) hKp z1
  have v3_0 := (((hKp _ a3_o.1).2.2.2 (fun z => hKo_ne3 z)).2.2.1 0).trans v3_0
  have v3_1 := (((hKp _ a3_o.1).2.2.2 (fun z => hKo_ne3 z)).2.2.1 1).trans v3_1
  have z4 := Rw6_k _ _ _ _ th _ hWc a4 (by rw [hKo.2]; omega) hKp z4
  have z5 := Tr0_k _ _ _ _ th _ hWc a5 (by rw [hKo.2]; omega) hKp z5
  have i8 := (show mi M13 th 8 = mi M12 th 8 by rw [hM13]; rw [mi_wi]; exact if_neg (fun z => absurd z.2 (by decide))).trans i8
  have i9 := (show mi M13 th 9 = mi M12 th 9 by rw [hM13]; rw [mi_wi]; exact if_neg (fun z => absurd z.2 (by decide))).trans i9
  have i10 : mi M13 th 10 = (0 : Int32) := by rw [hM13, mi_wi]; exact if_pos ⟨rfl, rfl⟩
  have l6 := (show ml M13 th 6 = ml M12 th 6 by rw [hM13]; rfl).trans l6
  have l7 := (show ml M13 th 7 = ml M12 th 7 by rw [hM13]; rfl).trans l7
  have hne2 : q2 ≠ th := fun z => absurd ((congrArg (eK E8) z).symm.trans a2.2.1) (by rw [hK.2]; decide)
  have hG1 := gr_mark (c := 12) hG a2.1 (Or.inr hq2_0) (by rw [a2.2.1]; omega) (fun e he => by
      simp only [rqT, List.mem_cons, List.not_mem_nil, or_false] at he
      rcases he with rfl | rfl
      · exact okK e2_0 k2_0
      · exact okK e2_1 k2_1) (fun z => absurd z (by decide))
  refine G_mark (q := q2) (c := 12) a2.2.1 (Or.inr (Or.inl rfl)) (WM_setK (by rw [a2.2.1]; omega) (by decide)) ?_
  have k32 := a2.2.1
  have b2 : isA (setK E8 q2 12) q2 12 2 := ⟨a2.1, va_up_self _ _ _, a2.2.2⟩
  have b0 := isK_mark (p := q2) (c := 12) a0 (by rw [k32]; decide)
  have b1 := isK_mark (p := q2) (c := 12) a1 (by rw [k32]; decide)
  have b3 := isA_mark (p := q2) (c := 12) a3 (by rw [k32]; decide)
  have b4 := isK_mark (p := q2) (c := 12) a4 (by rw [k32]; decide)
  have b5 := isK_mark (p := q2) (c := 12) a5 (by rw [k32]; decide)
  have hK1 : isK (setK E8 q2 12) th 27 := isK_mark (p := q2) (c := 12) hK (by rw [k32]; decide)
  have hG2 := gr_mark (c := 7) hG1 hK1.1 (Or.inl rfl) (by rw [hK1.2]; omega) (fun e he => by
      simp only [rqT, List.mem_cons, List.not_mem_nil, or_false] at he
      rcases he with rfl | rfl | rfl | rfl | rfl | rfl
      · exact okK f0 b0
      · exact okK f1 b1
      · exact okA f2 b2
      · exact okA f3 b3
      · exact okK f4 b4
      · exact okK f5 b5) (fun z => absurd z (by decide))
  refine G_mark (q := th) (c := 7) hK1.2 (Or.inl (by decide)) (WM_setK (by rw [hK1.2]; omega) (by decide)) ?_
  refine hR _ _ _ _ dX8_init_114 hG2.1 ⟨hG2, ⟨hK1.1, va_up_self _ _ _⟩, ?_, ?_, ?_, ?_, l6, l7, i8, i9, i10⟩
  · rw [show rr (setK (setK E8 q2 12) th 7) th 0 = q0 from rr_of f0]; exact z0
  · rw [show rr (setK (setK E8 q2 12) th 7) th 3 = q3 from rr_of f3]; exact v3_0
  · rw [show rr (setK (setK E8 q2 12) th 7) th 3 = q3 from rr_of f3]; exact v3_1
  · rw [show rr (setK (setK E8 q2 12) th 7) th 4 = q4 from rr_of f4]; exact z4
set_option maxRecDepth 100000 in
set_option maxHeartbeats 8000000 in
theorem ok_init_X9 (l0 : Launch) {E : Env1} {M : Mem} {th : Nat} (hW : WFt E) (hK : isK E th (20 + 8)) (hr : ∀ k, eR E th k = none) (hi : ∀ j, mi M th j = 0) (hl : ∀ j, ml M th j = 0) : Met l0 yX9_init (wsA yX9_init cX9_init 1 none) rm_X9_init (CP E M [.ref th]) (CQn E (fun E' M' => Gr E M E' M' th ∧ isK E' th 8 ∧ Mo0 E' M' th)) 17 1539 (eA E) := by
  have hG : Gr E M E M th := gr_rf hr
  have hth : th ∈ eL E := hK.1
  have n0 := hr 0
  have n7 := hr 7
  have n8 := hr 8
  have n9 := hr 9
  have n10 := hr 10
  have n11 := hr 11
  have n12 := hr 12
  have n13 := hr 13
  have n14 := hr 14
  have n15 := hr 15
  have n19 := hr 19
  have n20 := hr 20
  have n22 := hr 22
  have n23 := hr 23
  have n24 := hr 24
  have n27 := hr 27
  have n28 := hr 28
  have i1 := hi 1
  have i2 := hi 2
  have i3 := hi 3
  have i4 := hi 4
  have i5 := hi 5
  have i6 := hi 6
  have i16 := hi 16
  have i17 := hi 17
  have i18 := hi 18
  have i21 := hi 21
  have l25 := hl 25
  have l26 := hl 26
  have l29 := hl 29
  refine mtC l0 (by decide +kernel) rfl (Nat.le_of_ble_eq_true rfl) (L0 := [some (.ref th)]) rfl (fun X h hI hR => ?_)
  have h : Cx X l0 E RX9 cX9_init none 1 rm_X9_init := h
  refine G_aload_n h dX9_init_0 (i := 0) rfl rfl rfl ?_
  refine G_objInit h (lwg (List.mem_of_getElem? (i := 926) (by decide +kernel)) rfl) (lwg (List.mem_of_getElem? (i := 97) (by decide +kernel)) rfl) (lwg (List.mem_of_getElem? (i := 98) (by decide +kernel)) rfl) dX9_init_1 rfl (Nat.le_of_ble_eq_true rfl) (Nat.le_of_ble_eq_true rfl) ?_
  refine G_aload_n h dX9_init_4 (i := 0) rfl rfl rfl ?_
  refine G_iconst h dX9_init_5 (v := 3) (by decide) rfl ?_
  have hWc := hG.2.2.2.2.1 hW
  have hKo := hK
  refine G_fldI (T := TX9) (N := 30) (ci := 8) (k := 0) rfl inG9 (lwg (List.mem_of_getElem? (i := 931) (by decide +kernel)) rfl) rfl (by decide) rfl (by decide) tyX9 tyX9_ok nmX9 rfl rfl (fun _ => rfl) (fun _ => rfl) h hI hG hth hK n0 (lwg (List.mem_of_getElem? (i := 144) (by decide +kernel)) rfl) (N' := 3) (by decide) (by decide) (Nat.le_of_ble_eq_true rfl) (Nat.le_of_ble_eq_true rfl) (Nat.le_of_ble_eq_true rfl) dX9_init_6 dX9_init_8 rfl (fun E1 M1 q0 h hG hKp hkp hK f0 hko a0 hq0 u0 u0l => ?_)
  have n7 := (hko 7 (by decide)).trans n7
  have n8 := (hko 8 (by decide)).trans n8
  have n9 := (hko 9 (by decide)).trans n9
  have n10 := (hko 10 (by decide)).trans n10
  have n11 := (hko 11 (by decide)).trans n11
  have n12 := (hko 12 (by decide)).trans n12
  have n13 := (hko 13 (by decide)).trans n13
  have n14 := (hko 14 (by decide)).trans n14
  have n15 := (hko 15 (by decide)).trans n15
  have n19 := (hko 19 (by decide)).trans n19
  have n20 := (hko 20 (by decide)).trans n20
  have n22 := (hko 22 (by decide)).trans n22
  have n23 := (hko 23 (by decide)).trans n23
  have n24 := (hko 24 (by decide)).trans n24
  have n27 := (hko 27 (by decide)).trans n27
  have n28 := (hko 28 (by decide)).trans n28
  have i1 := (hkp 1).1.trans i1
  have i2 := (hkp 2).1.trans i2
  have i3 := (hkp 3).1.trans i3
  have i4 := (hkp 4).1.trans i4
  have i5 := (hkp 5).1.trans i5
  have i6 := (hkp 6).1.trans i6
  have i16 := (hkp 16).1.trans i16
  have i17 := (hkp 17).1.trans i17
  have i18 := (hkp 18).1.trans i18
  have i21 := (hkp 21).1.trans i21
  have l25 := (hkp 25).2.trans l25
  have l26 := (hkp 26).2.trans l26
  have l29 := (hkp 29).2.trans l29
  have v0_0 := u0 0
  have v0_1 := u0 1
  have v0_2 := u0 2
  refine G_aload_n h dX9_init_11 (i := 0) rfl rfl rfl ?_
  refine G_bipush h dX9_init_12 (v := 6) (by decide) rfl ?_
  have hWc := hG.2.2.2.2.1 hW
  have hKo := hK
  have a0_o := a0
  have hKo_ne0 : q0 = th → False := fun z => absurd ((congrArg (eK E1) z).symm.trans a0.2.1) (by rw [hK.2]; decide)
  refine G_fldI (T := TX9) (N := 30) (ci := 8) (k := 7) rfl inG9 (lwg (List.mem_of_getElem? (i := 938) (by decide +kernel)) rfl) rfl (by decide) rfl (by decide) tyX9 tyX9_ok nmX9 rfl rfl (fun _ => rfl) (fun _ => rfl) h hI hG hth hK n7 (lwg (List.mem_of_getElem? (i := 144) (by decide +kernel)) rfl) (N' := 6) (by decide) (by decide) (Nat.le_of_ble_eq_true rfl) (Nat.le_of_ble_eq_true rfl) (Nat.le_of_ble_eq_true rfl) dX9_init_14 dX9_init_16 rfl (fun E2 M2 q7 h hG hKp hkp hK f7 hko a7 hq7 u7 u7l => ?_)
  have f0 := (hko 0 (by decide)).trans f0
  have a0 := hKp.A a0
  have v0_0 := (((hKp _ a0_o.1).2.2.2 (fun z => hKo_ne0 z)).2.2.1 0).trans v0_0
  have v0_1 := (((hKp _ a0_o.1).2.2.2 (fun z => hKo_ne0 z)).2.2.1 1).trans v0_1
  have v0_2 := (((hKp _ a0_o.1).2.2.2 (fun z => hKo_ne0 z)).2.2.1 2).trans v0_2
  have n8 := (hko 8 (by decide)).trans n8
  have n9 := (hko 9 (by decide)).trans n9
  have n10 := (hko 10 (by decide)).trans n10
  have n11 := (hko 11 (by decide)).trans n11
  have n12 := (hko 12 (by decide)).trans n12
  have n13 := (hko 13 (by decide)).trans n13
  have n14 := (hko 14 (by decide)).trans n14
  have n15 := (hko 15 (by decide)).trans n15
  have n19 := (hko 19 (by decide)).trans n19
  have n20 := (hko 20 (by decide)).trans n20
  have n22 := (hko 22 (by decide)).trans n22
  have n23 := (hko 23 (by decide)).trans n23
  have n24 := (hko 24 (by decide)).trans n24
  have n27 := (hko 27 (by decide)).trans n27
  have n28 := (hko 28 (by decide)).trans n28
  have i1 := (hkp 1).1.trans i1
  have i2 := (hkp 2).1.trans i2
  have i3 := (hkp 3).1.trans i3
  have i4 := (hkp 4).1.trans i4
  have i5 := (hkp 5).1.trans i5
  have i6 := (hkp 6).1.trans i6
  have i16 := (hkp 16).1.trans i16
  have i17 := (hkp 17).1.trans i17
  have i18 := (hkp 18).1.trans i18
  have i21 := (hkp 21).1.trans i21
  have l25 := (hkp 25).2.trans l25
  have l26 := (hkp 26).2.trans l26
  have l29 := (hkp 29).2.trans l29
  refine G_aload_n h dX9_init_19 (i := 0) rfl rfl rfl ?_
  refine G_bipush h dX9_init_20 (v := 6) (by decide) rfl ?_
  have hWc := hG.2.2.2.2.1 hW
  have hKo := hK
  have a0_o := a0
  have hKo_ne0 : q0 = th → False := fun z => absurd ((congrArg (eK E2) z).symm.trans a0.2.1) (by rw [hK.2]; decide)
  have a7_o := a7
  have hKo_ne7 : q7 = th → False := fun z => absurd ((congrArg (eK E2) z).symm.trans a7.2.1) (by rw [hK.2]; decide)
  refine G_fldI (T := TX9) (N := 30) (ci := 8) (k := 8) rfl inG9 (lwg (List.mem_of_getElem? (i := 939) (by decide +kernel)) rfl) rfl (by decide) rfl (by decide) tyX9 tyX9_ok nmX9 rfl rfl (fun _ => rfl) (fun _ => rfl) h hI hG hth hK n8 (lwg (List.mem_of_getElem? (i := 144) (by decide +kernel)) rfl) (N' := 6) (by decide) (by decide) (Nat.le_of_ble_eq_true rfl) (Nat.le_of_ble_eq_true rfl) (Nat.le_of_ble_eq_true rfl) dX9_init_22 dX9_init_24 rfl (fun E3 M3 q8 h hG hKp hkp hK f8 hko a8 hq8 u8 u8l => ?_)
  have f0 := (hko 0 (by decide)).trans f0
  have a0 := hKp.A a0
  have v0_0 := (((hKp _ a0_o.1).2.2.2 (fun z => hKo_ne0 z)).2.2.1 0).trans v0_0
  have v0_1 := (((hKp _ a0_o.1).2.2.2 (fun z => hKo_ne0 z)).2.2.1 1).trans v0_1
  have v0_2 := (((hKp _ a0_o.1).2.2.2 (fun z => hKo_ne0 z)).2.2.1 2).trans v0_2
  have f7 := (hko 7 (by decide)).trans f7
  have a7 := hKp.A a7
  have n9 := (hko 9 (by decide)).trans n9
  have n10 := (hko 10 (by decide)).trans n10
  have n11 := (hko 11 (by decide)).trans n11
  have n12 := (hko 12 (by decide)).trans n12
  have n13 := (hko 13 (by decide)).trans n13
  have n14 := (hko 14 (by decide)).trans n14
  have n15 := (hko 15 (by decide)).trans n15
  have n19 := (hko 19 (by decide)).trans n19
  have n20 := (hko 20 (by decide)).trans n20
  have n22 := (hko 22 (by decide)).trans n22
  have n23 := (hko 23 (by decide)).trans n23
  have n24 := (hko 24 (by decide)).trans n24
  have n27 := (hko 27 (by decide)).trans n27
  have n28 := (hko 28 (by decide)).trans n28
  have i1 := (hkp 1).1.trans i1
  have i2 := (hkp 2).1.trans i2
  have i3 := (hkp 3).1.trans i3
  have i4 := (hkp 4).1.trans i4
  have i5 := (hkp 5).1.trans i5
  have i6 := (hkp 6).1.trans i6
  have i16 := (hkp 16).1.trans i16
  have i17 := (hkp 17).1.trans i17
  have i18 := (hkp 18).1.trans i18
  have i21 := (hkp 21).1.trans i21
  have l25 := (hkp 25).2.trans l25
  have l26 := (hkp 26).2.trans l26
  have l29 := (hkp 29).2.trans l29
  refine G_aload_n h dX9_init_27 (i := 0) rfl rfl rfl ?_
  refine G_bipush h dX9_init_28 (v := 6) (by decide) rfl ?_
  have hWc := hG.2.2.2.2.1 hW
  have hKo := hK
  have a0_o := a0
  have hKo_ne0 : q0 = th → False := fun z => absurd ((congrArg (eK E3) z).symm.trans a0.2.1) (by rw [hK.2]; decide)
  have a7_o := a7
  have hKo_ne7 : q7 = th → False := fun z => absurd ((congrArg (eK E3) z).symm.trans a7.2.1) (by rw [hK.2]; decide)
  have a8_o := a8
  have hKo_ne8 : q8 = th → False := fun z => absurd ((congrArg (eK E3) z).symm.trans a8.2.1) (by rw [hK.2]; decide)
  refine G_fldI (T := TX9) (N := 30) (ci := 8) (k := 9) rfl inG9 (lwg (List.mem_of_getElem? (i := 940) (by decide +kernel)) rfl) rfl (by decide) rfl (by decide) tyX9 tyX9_ok nmX9 rfl rfl (fun _ => rfl) (fun _ => rfl) h hI hG hth hK n9 (lwg (List.mem_of_getElem? (i := 144) (by decide +kernel)) rfl) (N' := 6) (by decide) (by decide) (Nat.le_of_ble_eq_true rfl) (Nat.le_of_ble_eq_true rfl) (Nat.le_of_ble_eq_true rfl) dX9_init_30 dX9_init_32 rfl (fun E4 M4 q9 h hG hKp hkp hK f9 hko a9 hq9 u9 u9l => ?_)
  have f0 := (hko 0 (by decide)).trans f0
  have a0 := hKp.A a0
  have v0_0 := (((hKp _ a0_o.1).2.2.2 (fun z => hKo_ne0 z)).2.2.1 0).trans v0_0
  have v0_1 := (((hKp _ a0_o.1).2.2.2 (fun z => hKo_ne0 z)).2.2.1 1).trans v0_1
  have v0_2 := (((hKp _ a0_o.1).2.2.2 (fun z => hKo_ne0 z)).2.2.1 2).trans v0_2
  have f7 := (hko 7 (by decide)).trans f7
  have a7 := hKp.A a7
  have f8 := (hko 8 (by decide)).trans f8
  have a8 := hKp.A a8
  have n10 := (hko 10 (by decide)).trans n10
  have n11 := (hko 11 (by decide)).trans n11
  have n12 := (hko 12 (by decide)).trans n12
  have n13 := (hko 13 (by decide)).trans n13
  have n14 := (hko 14 (by decide)).trans n14
  have n15 := (hko 15 (by decide)).trans n15
  have n19 := (hko 19 (by decide)).trans n19
  have n20 := (hko 20 (by decide)).trans n20
  have n22 := (hko 22 (by decide)).trans n22
  have n23 := (hko 23 (by decide)).trans n23
  have n24 := (hko 24 (by decide)).trans n24
  have n27 := (hko 27 (by decide)).trans n27
  have n28 := (hko 28 (by decide)).trans n28
  have i1 := (hkp 1).1.trans i1
  have i2 := (hkp 2).1.trans i2
  have i3 := (hkp 3).1.trans i3
  have i4 := (hkp 4).1.trans i4
  have i5 := (hkp 5).1.trans i5
  have i6 := (hkp 6).1.trans i6
  have i16 := (hkp 16).1.trans i16
  have i17 := (hkp 17).1.trans i17
  have i18 := (hkp 18).1.trans i18
  have i21 := (hkp 21).1.trans i21
  have l25 := (hkp 25).2.trans l25
  have l26 := (hkp 26).2.trans l26
  have l29 := (hkp 29).2.trans l29
  refine G_aload_n h dX9_init_35 (i := 0) rfl rfl rfl ?_
  refine G_bipush h dX9_init_36 (v := 6) (by decide) rfl ?_
  have hWc := hG.2.2.2.2.1 hW
  have hKo := hK
  have a0_o := a0
  have hKo_ne0 : q0 = th → False := fun z => absurd ((congrArg (eK E4) z).symm.trans a0.2.1) (by rw [hK.2]; decide)
  have a7_o := a7
  have hKo_ne7 : q7 = th → False := fun z => absurd ((congrArg (eK E4) z).symm.trans a7.2.1) (by rw [hK.2]; decide)
  have a8_o := a8
  have hKo_ne8 : q8 = th → False := fun z => absurd ((congrArg (eK E4) z).symm.trans a8.2.1) (by rw [hK.2]; decide)
  have a9_o := a9
  have hKo_ne9 : q9 = th → False := fun z => absurd ((congrArg (eK E4) z).symm.trans a9.2.1) (by rw [hK.2]; decide)
  refine G_fldI (T := TX9) (N := 30) (ci := 8) (k := 10) rfl inG9 (lwg (List.mem_of_getElem? (i := 941) (by decide +kernel)) rfl) rfl (by decide) rfl (by decide) tyX9 tyX9_ok nmX9 rfl rfl (fun _ => rfl) (fun _ => rfl) h hI hG hth hK n10 (lwg (List.mem_of_getElem? (i := 144) (by decide +kernel)) rfl) (N' := 6) (by decide) (by decide) (Nat.le_of_ble_eq_true rfl) (Nat.le_of_ble_eq_true rfl) (Nat.le_of_ble_eq_true rfl) dX9_init_38 dX9_init_40 rfl (fun E5 M5 q10 h hG hKp hkp hK f10 hko a10 hq10 u10 u10l => ?_)
  have f0 := (hko 0 (by decide)).trans f0
  have a0 := hKp.A a0
  have v0_0 := (((hKp _ a0_o.1).2.2.2 (fun z => hKo_ne0 z)).2.2.1 0).trans v0_0
  have v0_1 := (((hKp _ a0_o.1).2.2.2 (fun z => hKo_ne0 z)).2.2.1 1).trans v0_1
  have v0_2 := (((hKp _ a0_o.1).2.2.2 (fun z => hKo_ne0 z)).2.2.1 2).trans v0_2
  have f7 := (hko 7 (by decide)).trans f7
  have a7 := hKp.A a7
  have f8 := (hko 8 (by decide)).trans f8
  have a8 := hKp.A a8
  have f9 := (hko 9 (by decide)).trans f9
  have a9 := hKp.A a9
  have n11 := (hko 11 (by decide)).trans n11
  have n12 := (hko 12 (by decide)).trans n12
  have n13 := (hko 13 (by decide)).trans n13
  have n14 := (hko 14 (by decide)).trans n14
  have n15 := (hko 15 (by decide)).trans n15
  have n19 := (hko 19 (by decide)).trans n19
  have n20 := (hko 20 (by decide)).trans n20
  have n22 := (hko 22 (by decide)).trans n22
  have n23 := (hko 23 (by decide)).trans n23
  have n24 := (hko 24 (by decide)).trans n24
  have n27 := (hko 27 (by decide)).trans n27
  have n28 := (hko 28 (by decide)).trans n28
  have i1 := (hkp 1).1.trans i1
  have i2 := (hkp 2).1.trans i2
  have i3 := (hkp 3).1.trans i3
  have i4 := (hkp 4).1.trans i4
  have i5 := (hkp 5).1.trans i5
  have i6 := (hkp 6).1.trans i6
  have i16 := (hkp 16).1.trans i16
  have i17 := (hkp 17).1.trans i17
  have i18 := (hkp 18).1.trans i18
  have i21 := (hkp 21).1.trans i21
  have l25 := (hkp 25).2.trans l25
  have l26 := (hkp 26).2.trans l26
  have l29 := (hkp 29).2.trans l29
  refine G_aload_n h dX9_init_43 (i := 0) rfl rfl rfl ?_
  refine G_bipush h dX9_init_44 (v := 8) (by decide) rfl ?_
  have hWc := hG.2.2.2.2.1 hW
  have hKo := hK
  have a0_o := a0
  have hKo_ne0 : q0 = th → False := fun z => absurd ((congrArg (eK E5) z).symm.trans a0.2.1) (by rw [hK.2]; decide)
  have a7_o := a7
  have hKo_ne7 : q7 = th → False := fun z => absurd ((congrArg (eK E5) z).symm.trans a7.2.1) (by rw [hK.2]; decide)
  have a8_o := a8
  have hKo_ne8 : q8 = th → False := fun z => absurd ((congrArg (eK E5) z).symm.trans a8.2.1) (by rw [hK.2]; decide)
  have a9_o := a9
  have hKo_ne9 : q9 = th → False := fun z => absurd ((congrArg (eK E5) z).symm.trans a9.2.1) (by rw [hK.2]; decide)
  have a10_o := a10
  have hKo_ne10 : q10 = th → False := fun z => absurd ((congrArg (eK E5) z).symm.trans a10.2.1) (by rw [hK.2]; decide)
  refine G_fldI (T := TX9) (N := 30) (ci := 8) (k := 11) rfl inG9 (lwg (List.mem_of_getElem? (i := 942) (by decide +kernel)) rfl) rfl (by decide) rfl (by decide) tyX9 tyX9_ok nmX9 rfl rfl (fun _ => rfl) (fun _ => rfl) h hI hG hth hK n11 (lwg (List.mem_of_getElem? (i := 144) (by decide +kernel)) rfl) (N' := 8) (by decide) (by decide) (Nat.le_of_ble_eq_true rfl) (Nat.le_of_ble_eq_true rfl) (Nat.le_of_ble_eq_true rfl) dX9_init_46 dX9_init_48 rfl (fun E6 M6 q11 h hG hKp hkp hK f11 hko a11 hq11 u11 u11l => ?_)
  have f0 := (hko 0 (by decide)).trans f0
  have a0 := hKp.A a0
  have v0_0 := (((hKp _ a0_o.1).2.2.2 (fun z => hKo_ne0 z)).2.2.1 0).trans v0_0
  have v0_1 := (((hKp _ a0_o.1).2.2.2 (fun z => hKo_ne0 z)).2.2.1 1).trans v0_1
  have v0_2 := (((hKp _ a0_o.1).2.2.2 (fun z => hKo_ne0 z)).2.2.1 2).trans v0_2
  have f7 := (hko 7 (by decide)).trans f7
  have a7 := hKp.A a7
  have f8 := (hko 8 (by decide)).trans f8
  have a8 := hKp.A a8
  have f9 := (hko 9 (by decide)).trans f9
  have a9 := hKp.A a9
  have f10 := (hko 10 (by decide)).trans f10
  have a10 := hKp.A a10
  have n12 := (hko 12 (by decide)).trans n12
  have n13 := (hko 13 (by decide)).trans n13
  have n14 := (hko 14 (by decide)).trans n14
  have n15 := (hko 15 (by decide)).trans n15
  have n19 := (hko 19 (by decide)).trans n19
  have n20 := (hko 20 (by decide)).trans n20
  have n22 := (hko 22 (by decide)).trans n22
  have n23 := (hko 23 (by decide)).trans n23
  have n24 := (hko 24 (by decide)).trans n24
  have n27 := (hko 27 (by decide)).trans n27
  have n28 := (hko 28 (by decide)).trans n28
  have i1 := (hkp 1).1.trans i1
  have i2 := (hkp 2).1.trans i2
  have i3 := (hkp 3).1.trans i3
  have i4 := (hkp 4).1.trans i4
  have i5 := (hkp 5).1.trans i5
  have i6 := (hkp 6).1.trans i6
  have i16 := (hkp 16).1.trans i16
  have i17 := (hkp 17).1.trans i17
  have i18 := (hkp 18).1.trans i18
  have i21 := (hkp 21).1.trans i21
  have l25 := (hkp 25).2.trans l25
  have l26 := (hkp 26).2.trans l26
  have l29 := (hkp 29).2.trans l29
  refine G_aload_n h dX9_init_51 (i := 0) rfl rfl rfl ?_
  refine G_bipush h dX9_init_52 (v := 18) (by decide) rfl ?_
  have hWc := hG.2.2.2.2.1 hW
  have hKo := hK
  have a0_o := a0
  have hKo_ne0 : q0 = th → False := fun z => absurd ((congrArg (eK E6) z).symm.trans a0.2.1) (by rw [hK.2]; decide)
  have a7_o := a7
  have hKo_ne7 : q7 = th → False := fun z => absurd ((congrArg (eK E6) z).symm.trans a7.2.1) (by rw [hK.2]; decide)
  have a8_o := a8
  have hKo_ne8 : q8 = th → False := fun z => absurd ((congrArg (eK E6) z).symm.trans a8.2.1) (by rw [hK.2]; decide)
  have a9_o := a9
  have hKo_ne9 : q9 = th → False := fun z => absurd ((congrArg (eK E6) z).symm.trans a9.2.1) (by rw [hK.2]; decide)
  have a10_o := a10
  have hKo_ne10 : q10 = th → False := fun z => absurd ((congrArg (eK E6) z).symm.trans a10.2.1) (by rw [hK.2]; decide)
  have a11_o := a11
  have hKo_ne11 : q11 = th → False := fun z => absurd ((congrArg (eK E6) z).symm.trans a11.2.1) (by rw [hK.2]; decide)
  refine G_fldI (T := TX9) (N := 30) (ci := 8) (k := 12) rfl inG9 (lwg (List.mem_of_getElem? (i := 943) (by decide +kernel)) rfl) rfl (by decide) rfl (by decide) tyX9 tyX9_ok nmX9 rfl rfl (fun _ => rfl) (fun _ => rfl) h hI hG hth hK n12 (lwg (List.mem_of_getElem? (i := 144) (by decide +kernel)) rfl) (N' := 18) (by decide) (by decide) (Nat.le_of_ble_eq_true rfl) (Nat.le_of_ble_eq_true rfl) (Nat.le_of_ble_eq_true rfl) dX9_init_54 dX9_init_56 rfl (fun E7 M7 q12 h hG hKp hkp hK f12 hko a12 hq12 u12 u12l => ?_)
  have f0 := (hko 0 (by decide)).trans f0
  have a0 := hKp.A a0
  have v0_0 := (((hKp _ a0_o.1).2.2.2 (fun z => hKo_ne0 z)).2.2.1 0).trans v0_0
  have v0_1 := (((hKp _ a0_o.1).2.2.2 (fun z => hKo_ne0 z)).2.2.1 1).trans v0_1
  have v0_2 := (((hKp _ a0_o.1).2.2.2 (fun z => hKo_ne0 z)).2.2.1 2).trans v0_2
  have f7 := (hko 7 (by decide)).trans f7
  have a7 := hKp.A a7
  have f8 := (hko 8 (by decide)).trans f8
  have a8 := hKp.A a8
  have f9 := (hko 9 (by decide)).trans f9
  have a9 := hKp.A a9
  have f10 := (hko 10 (by decide)).trans f10
  have a10 := hKp.A a10
  have f11 := (hko 11 (by decide)).trans f11
  have a11 := hKp.A a11
  have n13 := (hko 13 (by decide)).trans n13
  have n14 := (hko 14 (by decide)).trans n14
  have n15 := (hko 15 (by decide)).trans n15
  have n19 := (hko 19 (by decide)).trans n19
  have n20 := (hko 20 (by decide)).trans n20
  have n22 := (hko 22 (by decide)).trans n22
  have n23 := (hko 23 (by decide)).trans n23
  have n24 := (hko 24 (by decide)).trans n24
  have n27 := (hko 27 (by decide)).trans n27
  have n28 := (hko 28 (by decide)).trans n28
  have i1 := (hkp 1).1.trans i1
  have i2 := (hkp 2).1.trans i2
  have i3 := (hkp 3).1.trans i3
  have i4 := (hkp 4).1.trans i4
  have i5 := (hkp 5).1.trans i5
  have i6 := (hkp 6).1.trans i6
  have i16 := (hkp 16).1.trans i16
  have i17 := (hkp 17).1.trans i17
  have i18 := (hkp 18).1.trans i18
  have i21 := (hkp 21).1.trans i21
  have l25 := (hkp 25).2.trans l25
  have l26 := (hkp 26).2.trans l26
  have l29 := (hkp 29).2.trans l29
  refine G_aload_n h dX9_init_59 (i := 0) rfl rfl rfl ?_
  refine G_bipush h dX9_init_60 (v := 24) (by decide) rfl ?_
  have hWc := hG.2.2.2.2.1 hW
  have hKo := hK
  have a0_o := a0
  have hKo_ne0 : q0 = th → False := fun z => absurd ((congrArg (eK E7) z).symm.trans a0.2.1) (by rw [hK.2]; decide)
  have a7_o := a7
  have hKo_ne7 : q7 = th → False := fun z => absurd ((congrArg (eK E7) z).symm.trans a7.2.1) (by rw [hK.2]; decide)
  have a8_o := a8
  have hKo_ne8 : q8 = th → False := fun z => absurd ((congrArg (eK E7) z).symm.trans a8.2.1) (by rw [hK.2]; decide)
  have a9_o := a9
  have hKo_ne9 : q9 = th → False := fun z => absurd ((congrArg (eK E7) z).symm.trans a9.2.1) (by rw [hK.2]; decide)
  have a10_o := a10
  have hKo_ne10 : q10 = th → False := fun z => absurd ((congrArg (eK E7) z).symm.trans a10.2.1) (by rw [hK.2]; decide)
  have a11_o := a11
  have hKo_ne11 : q11 = th → False := fun z => absurd ((congrArg (eK E7) z).symm.trans a11.2.1) (by rw [hK.2]; decide)
  have a12_o := a12
  have hKo_ne12 : q12 = th → False := fun z => absurd ((congrArg (eK E7) z).symm.trans a12.2.1) (by rw [hK.2]; decide)
  refine G_fldI (T := TX9) (N := 30) (ci := 8) (k := 13) rfl inG9 (lwg (List.mem_of_getElem? (i := 944) (by decide +kernel)) rfl) rfl (by decide) rfl (by decide) tyX9 tyX9_ok nmX9 rfl rfl (fun _ => rfl) (fun _ => rfl) h hI hG hth hK n13 (lwg (List.mem_of_getElem? (i := 144) (by decide +kernel)) rfl) (N' := 24) (by decide) (by decide) (Nat.le_of_ble_eq_true rfl) (Nat.le_of_ble_eq_true rfl) (Nat.le_of_ble_eq_true rfl) dX9_init_62 dX9_init_64 rfl (fun E8 M8 q13 h hG hKp hkp hK f13 hko a13 hq13 u13 u13l => ?_)
  have f0 := (hko 0 (by decide)).trans f0
  have a0 := hKp.A a0
  have v0_0 := (((hKp _ a0_o.1).2.2.2 (fun z => hKo_ne0 z)).2.2.1 0).trans v0_0
  have v0_1 := (((hKp _ a0_o.1).2.2.2 (fun z => hKo_ne0 z)).2.2.1 1).trans v0_1
  have v0_2 := (((hKp _ a0_o.1).2.2.2 (fun z => hKo_ne0 z)).2.2.1 2).trans v0_2
  have f7 := (hko 7 (by decide)).trans f7
  have a7 := hKp.A a7
  have f8 := (hko 8 (by decide)).trans f8
  have a8 := hKp.A a8
  have f9 := (hko 9 (by decide)).trans f9
  have a9 := hKp.A a9
  have f10 := (hko 10 (by decide)).trans f10
  have a10 := hKp.A a10
  have f11 := (hko 11 (by decide)).trans f11
  have a11 := hKp.A a11
  have f12 := (hko 12 (by decide)).trans f12
  have a12 := hKp.A a12
  have n14 := (hko 14 (by decide)).trans n14
  have n15 := (hko 15 (by decide)).trans n15
  have n19 := (hko 19 (by decide)).trans n19
  have n20 := (hko 20 (by decide)).trans n20
  have n22 := (hko 22 (by decide)).trans n22
  have n23 := (hko 23 (by decide)).trans n23
  have n24 := (hko 24 (by decide)).trans n24
  have n27 := (hko 27 (by decide)).trans n27
  have n28 := (hko 28 (by decide)).trans n28
  have i1 := (hkp 1).1.trans i1
  have i2 := (hkp 2).1.trans i2
  have i3 := (hkp 3).1.trans i3
  have i4 := (hkp 4).1.trans i4
  have i5 := (hkp 5).1.trans i5
  have i6 := (hkp 6).1.trans i6
  have i16 := (hkp 16).1.trans i16
  have i17 := (hkp 17).1.trans i17
  have i18 := (hkp 18).1.trans i18
  have i21 := (hkp 21).1.trans i21
  have l25 := (hkp 25).2.trans l25
  have l26 := (hkp 26).2.trans l26
  have l29 := (hkp 29).2.trans l29
  refine G_aload_n h dX9_init_67 (i := 0) rfl rfl rfl ?_
  refine G_bipush h dX9_init_68 (v := 24) (by decide) rfl ?_
  have hWc := hG.2.2.2.2.1 hW
  have hKo := hK
  have a0_o := a0
  have hKo_ne0 : q0 = th → False := fun z => absurd ((congrArg (eK E8) z).symm.trans a0.2.1) (by rw [hK.2]; decide)
  have a7_o := a7
  have hKo_ne7 : q7 = th → False := fun z => absurd ((congrArg (eK E8) z).symm.trans a7.2.1) (by rw [hK.2]; decide)
  have a8_o := a8
  have hKo_ne8 : q8 = th → False := fun z => absurd ((congrArg (eK E8) z).symm.trans a8.2.1) (by rw [hK.2]; decide)
  have a9_o := a9
  have hKo_ne9 : q9 = th → False := fun z => absurd ((congrArg (eK E8) z).symm.trans a9.2.1) (by rw [hK.2]; decide)
  have a10_o := a10
  have hKo_ne10 : q10 = th → False := fun z => absurd ((congrArg (eK E8) z).symm.trans a10.2.1) (by rw [hK.2]; decide)
  have a11_o := a11
  have hKo_ne11 : q11 = th → False := fun z => absurd ((congrArg (eK E8) z).symm.trans a11.2.1) (by rw [hK.2]; decide)
  have a12_o := a12
  have hKo_ne12 : q12 = th → False := fun z => absurd ((congrArg (eK E8) z).symm.trans a12.2.1) (by rw [hK.2]; decide)
  have a13_o := a13
  have hKo_ne13 : q13 = th → False := fun z => absurd ((congrArg (eK E8) z).symm.trans a13.2.1) (by rw [hK.2]; decide)
  refine G_fldI (T := TX9) (N := 30) (ci := 8) (k := 14) rfl inG9 (lwg (List.mem_of_getElem? (i := 945) (by decide +kernel)) rfl) rfl (by decide) rfl (by decide) tyX9 tyX9_ok nmX9 rfl rfl (fun _ => rfl) (fun _ => rfl) h hI hG hth hK n14 (lwg (List.mem_of_getElem? (i := 144) (by decide +kernel)) rfl) (N' := 24) (by decide) (by decide) (Nat.le_of_ble_eq_true rfl) (Nat.le_of_ble_eq_true rfl) (Nat.le_of_ble_eq_true rfl) dX9_init_70 dX9_init_72 rfl (fun E9 M9 q14 h hG hKp hkp hK f14 hko a14 hq14 u14 u14l => ?_)
  have f0 := (hko 0 (by decide)).trans f0
  have a0 := hKp.A a0
  have v0_0 := (((hKp _ a0_o.1).2.2.2 (fun z => hKo_ne0 z)).2.2.1 0).trans v0_0
  have v0_1 := (((hKp _ a0_o.1).2.2.2 (fun z => hKo_ne0 z)).2.2.1 1).trans v0_1
  have v0_2 := (((hKp _ a0_o.1).2.2.2 (fun z => hKo_ne0 z)).2.2.1 2).trans v0_2
  have f7 := (hko 7 (by decide)).trans f7
  have a7 := hKp.A a7
  have f8 := (hko 8 (by decide)).trans f8
  have a8 := hKp.A a8
  have f9 := (hko 9 (by decide)).trans f9
  have a9 := hKp.A a9
  have f10 := (hko 10 (by decide)).trans f10
  have a10 := hKp.A a10
  have f11 := (hko 11 (by decide)).trans f11
  have a11 := hKp.A a11
  have f12 := (hko 12 (by decide)).trans f12
  have a12 := hKp.A a12
  have f13 := (hko 13 (by decide)).trans f13
  have a13 := hKp.A a13
  have n15 := (hko 15 (by decide)).trans n15
  have n19 := (hko 19 (by decide)).trans n19
  have n20 := (hko 20 (by decide)).trans n20
  have n22 := (hko 22 (by decide)).trans n22
  have n23 := (hko 23 (by decide)).trans n23
  have n24 := (hko 24 (by decide)).trans n24
  have n27 := (hko 27 (by decide)).trans n27
  have n28 := (hko 28 (by decide)).trans n28
  have i1 := (hkp 1).1.trans i1
  have i2 := (hkp 2).1.trans i2
  have i3 := (hkp 3).1.trans i3
  have i4 := (hkp 4).1.trans i4
  have i5 := (hkp 5).1.trans i5
  have i6 := (hkp 6).1.trans i6
  have i16 := (hkp 16).1.trans i16
  have i17 := (hkp 17).1.trans i17
  have i18 := (hkp 18).1.trans i18
  have i21 := (hkp 21).1.trans i21
  have l25 := (hkp 25).2.trans l25
  have l26 := (hkp 26).2.trans l26
  have l29 := (hkp 29).2.trans l29
  refine G_aload_n h dX9_init_75 (i := 0) rfl rfl rfl ?_
  refine G_sipush h dX9_init_76 (v := 150) (by decide) rfl ?_
  have hWc := hG.2.2.2.2.1 hW
  have hKo := hK
  have a0_o := a0
  have hKo_ne0 : q0 = th → False := fun z => absurd ((congrArg (eK E9) z).symm.trans a0.2.1) (by rw [hK.2]; decide)
  have a7_o := a7
  have hKo_ne7 : q7 = th → False := fun z => absurd ((congrArg (eK E9) z).symm.trans a7.2.1) (by rw [hK.2]; decide)
  have a8_o := a8
  have hKo_ne8 : q8 = th → False := fun z => absurd ((congrArg (eK E9) z).symm.trans a8.2.1) (by rw [hK.2]; decide)
  have a9_o := a9
  have hKo_ne9 : q9 = th → False := fun z => absurd ((congrArg (eK E9) z).symm.trans a9.2.1) (by rw [hK.2]; decide)
  have a10_o := a10
  have hKo_ne10 : q10 = th → False := fun z => absurd ((congrArg (eK E9) z).symm.trans a10.2.1) (by rw [hK.2]; decide)
  have a11_o := a11
  have hKo_ne11 : q11 = th → False := fun z => absurd ((congrArg (eK E9) z).symm.trans a11.2.1) (by rw [hK.2]; decide)
  have a12_o := a12
  have hKo_ne12 : q12 = th → False := fun z => absurd ((congrArg (eK E9) z).symm.trans a12.2.1) (by rw [hK.2]; decide)
  have a13_o := a13
  have hKo_ne13 : q13 = th → False := fun z => absurd ((congrArg (eK E9) z).symm.trans a13.2.1) (by rw [hK.2]; decide)
  have a14_o := a14
  have hKo_ne14 : q14 = th → False := fun z => absurd ((congrArg (eK E9) z).symm.trans a14.2.1) (by rw [hK.2]; decide)
  refine G_fldI (T := TX9) (N := 30) (ci := 8) (k := 15) rfl inG9 (lwg (List.mem_of_getElem? (i := 946) (by decide +kernel)) rfl) rfl (by decide) rfl (by decide) tyX9 tyX9_ok nmX9 rfl rfl (fun _ => rfl) (fun _ => rfl) h hI hG hth hK n15 (lwg (List.mem_of_getElem? (i := 144) (by decide +kernel)) rfl) (N' := 150) (by decide) (by decide) (Nat.le_of_ble_eq_true rfl) (Nat.le_of_ble_eq_true rfl) (Nat.le_of_ble_eq_true rfl) dX9_init_79 dX9_init_81 rfl (fun E10 M10 q15 h hG hKp hkp hK f15 hko a15 hq15 u15 u15l => ?_)
  have f0 := (hko 0 (by decide)).trans f0
  have a0 := hKp.A a0
  have v0_0 := (((hKp _ a0_o.1).2.2.2 (fun z => hKo_ne0 z)).2.2.1 0).trans v0_0
  have v0_1 := (((hKp _ a0_o.1).2.2.2 (fun z => hKo_ne0 z)).2.2.1 1).trans v0_1
  have v0_2 := (((hKp _ a0_o.1).2.2.2 (fun z => hKo_ne0 z)).2.2.1 2).trans v0_2
  have f7 := (hko 7 (by decide)).trans f7
  have a7 := hKp.A a7
  have f8 := (hko 8 (by decide)).trans f8
  have a8 := hKp.A a8
  have f9 := (hko 9 (by decide)).trans f9
  have a9 := hKp.A a9
  have f10 := (hko 10 (by decide)).trans f10
  have a10 := hKp.A a10
  have f11 := (hko 11 (by decide)).trans f11
  have a11 := hKp.A a11
  have f12 := (hko 12 (by decide)).trans f12
  have a12 := hKp.A a12
  have f13 := (hko 13 (by decide)).trans f13
  have a13 := hKp.A a13
  have f14 := (hko 14 (by decide)).trans f14
  have a14 := hKp.A a14
  have n19 := (hko 19 (by decide)).trans n19
  have n20 := (hko 20 (by decide)).trans n20
  have n22 := (hko 22 (by decide)).trans n22
  have n23 := (hko 23 (by decide)).trans n23
  have n24 := (hko 24 (by decide)).trans n24
  have n27 := (hko 27 (by decide)).trans n27
  have n28 := (hko 28 (by decide)).trans n28
  have i1 := (hkp 1).1.trans i1
  have i2 := (hkp 2).1.trans i2
  have i3 := (hkp 3).1.trans i3
  have i4 := (hkp 4).1.trans i4
  have i5 := (hkp 5).1.trans i5
  have i6 := (hkp 6).1.trans i6
  have i16 := (hkp 16).1.trans i16
  have i17 := (hkp 17).1.trans i17
  have i18 := (hkp 18).1.trans i18
  have i21 := (hkp 21).1.trans i21
  have l25 := (hkp 25).2.trans l25
  have l26 := (hkp 26).2.trans l26
  have l29 := (hkp 29).2.trans l29
  refine G_aload_n h dX9_init_84 (i := 0) rfl rfl rfl ?_
  refine G_sipush h dX9_init_85 (v := 300) (by decide) rfl ?_
  have hWc := hG.2.2.2.2.1 hW
  have hKo := hK
  have a0_o := a0
  have hKo_ne0 : q0 = th → False := fun z => absurd ((congrArg (eK E10) z).symm.trans a0.2.1) (by rw [hK.2]; decide)
  have a7_o := a7
  have hKo_ne7 : q7 = th → False := fun z => absurd ((congrArg (eK E10) z).symm.trans a7.2.1) (by rw [hK.2]; decide)
  have a8_o := a8
  have hKo_ne8 : q8 = th → False := fun z => absurd ((congrArg (eK E10) z).symm.trans a8.2.1) (by rw [hK.2]; decide)
  have a9_o := a9
  have hKo_ne9 : q9 = th → False := fun z => absurd ((congrArg (eK E10) z).symm.trans a9.2.1) (by rw [hK.2]; decide)
  have a10_o := a10
  have hKo_ne10 : q10 = th → False := fun z => absurd ((congrArg (eK E10) z).symm.trans a10.2.1) (by rw [hK.2]; decide)
  have a11_o := a11
  have hKo_ne11 : q11 = th → False := fun z => absurd ((congrArg (eK E10) z).symm.trans a11.2.1) (by rw [hK.2]; decide)
  have a12_o := a12
  have hKo_ne12 : q12 = th → False := fun z => absurd ((congrArg (eK E10) z).symm.trans a12.2.1) (by rw [hK.2]; decide)
  have a13_o := a13
  have hKo_ne13 : q13 = th → False := fun z => absurd ((congrArg (eK E10) z).symm.trans a13.2.1) (by rw [hK.2]; decide)
  have a14_o := a14
  have hKo_ne14 : q14 = th → False := fun z => absurd ((congrArg (eK E10) z).symm.trans a14.2.1) (by rw [hK.2]; decide)
  have a15_o := a15
  have hKo_ne15 : q15 = th → False := fun z => absurd ((congrArg (eK E10) z).symm.trans a15.2.1) (by rw [hK.2]; decide)
  refine G_fldI (T := TX9) (N := 30) (ci := 8) (k := 19) rfl inG9 (lwg (List.mem_of_getElem? (i := 950) (by decide +kernel)) rfl) rfl (by decide) rfl (by decide) tyX9 tyX9_ok nmX9 rfl rfl (fun _ => rfl) (fun _ => rfl) h hI hG hth hK n19 (lwg (List.mem_of_getElem? (i := 144) (by decide +kernel)) rfl) (N' := 300) (by decide) (by decide) (Nat.le_of_ble_eq_true rfl) (Nat.le_of_ble_eq_true rfl) (Nat.le_of_ble_eq_true rfl) dX9_init_88 dX9_init_90 rfl (fun E11 M11 q19 h hG hKp hkp hK f19 hko a19 hq19 u19 u19l => ?_)
  have f0 := (hko 0 (by decide)).trans f0
  have a0 := hKp.A a0
  have v0_0 := (((hKp _ a0_o.1).2.2.2 (fun z => hKo_ne0 z)).2.2.1 0).trans v0_0
  have v0_1 := (((hKp _ a0_o.1).2.2.2 (fun z => hKo_ne0 z)).2.2.1 1).trans v0_1
  have v0_2 := (((hKp _ a0_o.1).2.2.2 (fun z => hKo_ne0 z)).2.2.1 2).trans v0_2
  have f7 := (hko 7 (by decide)).trans f7
  have a7 := hKp.A a7
  have f8 := (hko 8 (by decide)).trans f8
  have a8 := hKp.A a8
  have f9 := (hko 9 (by decide)).trans f9
  have a9 := hKp.A a9
  have f10 := (hko 10 (by decide)).trans f10
  have a10 := hKp.A a10
  have f11 := (hko 11 (by decide)).trans f11
  have a11 := hKp.A a11
  have f12 := (hko 12 (by decide)).trans f12
  have a12 := hKp.A a12
  have f13 := (hko 13 (by decide)).trans f13
  have a13 := hKp.A a13
  have f14 := (hko 14 (by decide)).trans f14
  have a14 := hKp.A a14
  have f15 := (hko 15 (by decide)).trans f15
  have a15 := hKp.A a15
  have n20 := (hko 20 (by decide)).trans n20
  have n22 := (hko 22 (by decide)).trans n22
  have n23 := (hko 23 (by decide)).trans n23
  have n24 := (hko 24 (by decide)).trans n24
  have n27 := (hko 27 (by decide)).trans n27
  have n28 := (hko 28 (by decide)).trans n28
  have i1 := (hkp 1).1.trans i1
  have i2 := (hkp 2).1.trans i2
  have i3 := (hkp 3).1.trans i3
  have i4 := (hkp 4).1.trans i4
  have i5 := (hkp 5).1.trans i5
  have i6 := (hkp 6).1.trans i6
  have i16 := (hkp 16).1.trans i16
  have i17 := (hkp 17).1.trans i17
  have i18 := (hkp 18).1.trans i18
  have i21 := (hkp 21).1.trans i21
  have l25 := (hkp 25).2.trans l25
  have l26 := (hkp 26).2.trans l26
  have l29 := (hkp 29).2.trans l29
  refine G_aload_n h dX9_init_93 (i := 0) rfl rfl rfl ?_
  refine G_sipush h dX9_init_94 (v := 176) (by decide) rfl ?_
  have hWc := hG.2.2.2.2.1 hW
  have hKo := hK
  have a0_o := a0
  have hKo_ne0 : q0 = th → False := fun z => absurd ((congrArg (eK E11) z).symm.trans a0.2.1) (by rw [hK.2]; decide)
  have a7_o := a7
  have hKo_ne7 : q7 = th → False := fun z => absurd ((congrArg (eK E11) z).symm.trans a7.2.1) (by rw [hK.2]; decide)
  have a8_o := a8
  have hKo_ne8 : q8 = th → False := fun z => absurd ((congrArg (eK E11) z).symm.trans a8.2.1) (by rw [hK.2]; decide)
  have a9_o := a9
  have hKo_ne9 : q9 = th → False := fun z => absurd ((congrArg (eK E11) z).symm.trans a9.2.1) (by rw [hK.2]; decide)
  have a10_o := a10
  have hKo_ne10 : q10 = th → False := fun z => absurd ((congrArg (eK E11) z).symm.trans a10.2.1) (by rw [hK.2]; decide)
  have a11_o := a11
  have hKo_ne11 : q11 = th → False := fun z => absurd ((congrArg (eK E11) z).symm.trans a11.2.1) (by rw [hK.2]; decide)
  have a12_o := a12
  have hKo_ne12 : q12 = th → False := fun z => absurd ((congrArg (eK E11) z).symm.trans a12.2.1) (by rw [hK.2]; decide)
  have a13_o := a13
  have hKo_ne13 : q13 = th → False := fun z => absurd ((congrArg (eK E11) z).symm.trans a13.2.1) (by rw [hK.2]; decide)
  have a14_o := a14
  have hKo_ne14 : q14 = th → False := fun z => absurd ((congrArg (eK E11) z).symm.trans a14.2.1) (by rw [hK.2]; decide)
  have a15_o := a15
  have hKo_ne15 : q15 = th → False := fun z => absurd ((congrArg (eK E11) z).symm.trans a15.2.1) (by rw [hK.2]; decide)
  have a19_o := a19
  have hKo_ne19 : q19 = th → False := fun z => absurd ((congrArg (eK E11) z).symm.trans a19.2.1) (by rw [hK.2]; decide)
  refine G_fldI (T := TX9) (N := 30) (ci := 8) (k := 20) rfl inG9 (lwg (List.mem_of_getElem? (i := 951) (by decide +kernel)) rfl) rfl (by decide) rfl (by decide) tyX9 tyX9_ok nmX9 rfl rfl (fun _ => rfl) (fun _ => rfl) h hI hG hth hK n20 (lwg (List.mem_of_getElem? (i := 144) (by decide +kernel)) rfl) (N' := 176) (by decide) (by decide) (Nat.le_of_ble_eq_true rfl) (Nat.le_of_ble_eq_true rfl) (Nat.le_of_ble_eq_true rfl) dX9_init_97 dX9_init_99 rfl (fun E12 M12 q20 h hG hKp hkp hK f20 hko a20 hq20 u20 u20l => ?_)
  have f0 := (hko 0 (by decide)).trans f0
  have a0 := hKp.A a0
  have v0_0 := (((hKp _ a0_o.1).2.2.2 (fun z => hKo_ne0 z)).2.2.1 0).trans v0_0
  have v0_1 := (((hKp _ a0_o.1).2.2.2 (fun z => hKo_ne0 z)).2.2.1 1).trans v0_1
  have v0_2 := (((hKp _ a0_o.1).2.2.2 (fun z => hKo_ne0 z)).2.2.1 2).trans v0_2
  have f7 := (hko 7 (by decide)).trans f7
  have a7 := hKp.A a7
  have f8 := (hko 8 (by decide)).trans f8
  have a8 := hKp.A a8
  have f9 := (hko 9 (by decide)).trans f9
  have a9 := hKp.A a9
  have f10 := (hko 10 (by decide)).trans f10
  have a10 := hKp.A a10
  have f11 := (hko 11 (by decide)).trans f11
  have a11 := hKp.A a11
  have f12 := (hko 12 (by decide)).trans f12
  have a12 := hKp.A a12
  have f13 := (hko 13 (by decide)).trans f13
  have a13 := hKp.A a13
  have f14 := (hko 14 (by decide)).trans f14
  have a14 := hKp.A a14
  have f15 := (hko 15 (by decide)).trans f15
  have a15 := hKp.A a15
  have f19 := (hko 19 (by decide)).trans f19
  have a19 := hKp.A a19
  have n22 := (hko 22 (by decide)).trans n22
  have n23 := (hko 23 (by decide)).trans n23
  have n24 := (hko 24 (by decide)).trans n24
  have n27 := (hko 27 (by decide)).trans n27
  have n28 := (hko 28 (by decide)).trans n28
  have i1 := (hkp 1).1.trans i1
  have i2 := (hkp 2).1.trans i2
  have i3 := (hkp 3).1.trans i3
  have i4 := (hkp 4).1.trans i4
  have i5 := (hkp 5).1.trans i5
  have i6 := (hkp 6).1.trans i6
  have i16 := (hkp 16).1.trans i16
  have i17 := (hkp 17).1.trans i17
  have i18 := (hkp 18).1.trans i18
  have i21 := (hkp 21).1.trans i21
  have l25 := (hkp 25).2.trans l25
  have l26 := (hkp 26).2.trans l26
  have l29 := (hkp 29).2.trans l29
  refine G_aload_n h dX9_init_102 (i := 0) rfl rfl rfl ?_
  refine G_bipush h dX9_init_103 (v := 22) (by decide) rfl ?_
  have hWc := hG.2.2.2.2.1 hW
  have hKo := hK
  have a0_o := a0
  have hKo_ne0 : q0 = th → False := fun z => absurd ((congrArg (eK E12) z).symm.trans a0.2.1) (by rw [hK.2]; decide)
  have a7_o := a7
  have hKo_ne7 : q7 = th → False := fun z => absurd ((congrArg (eK E12) z).symm.trans a7.2.1) (by rw [hK.2]; decide)
  have a8_o := a8
  have hKo_ne8 : q8 = th → False := fun z => absurd ((congrArg (eK E12) z).symm.trans a8.2.1) (by rw [hK.2]; decide)
  have a9_o := a9
  have hKo_ne9 : q9 = th → False := fun z => absurd ((congrArg (eK E12) z).symm.trans a9.2.1) (by rw [hK.2]; decide)
  have a10_o := a10
  have hKo_ne10 : q10 = th → False := fun z => absurd ((congrArg (eK E12) z).symm.trans a10.2.1) (by rw [hK.2]; decide)
  have a11_o := a11
  have hKo_ne11 : q11 = th → False := fun z => absurd ((congrArg (eK E12) z).symm.trans a11.2.1) (by rw [hK.2]; decide)
  have a12_o := a12
  have hKo_ne12 : q12 = th → False := fun z => absurd ((congrArg (eK E12) z).symm.trans a12.2.1) (by rw [hK.2]; decide)
  have a13_o := a13
  have hKo_ne13 : q13 = th → False := fun z => absurd ((congrArg (eK E12) z).symm.trans a13.2.1) (by rw [hK.2]; decide)
  have a14_o := a14
  have hKo_ne14 : q14 = th → False := fun z => absurd ((congrArg (eK E12) z).symm.trans a14.2.1) (by rw [hK.2]; decide)
  have a15_o := a15
  have hKo_ne15 : q15 = th → False := fun z => absurd ((congrArg (eK E12) z).symm.trans a15.2.1) (by rw [hK.2]; decide)
  have a19_o := a19
  have hKo_ne19 : q19 = th → False := fun z => absurd ((congrArg (eK E12) z).symm.trans a19.2.1) (by rw [hK.2]; decide)
  have a20_o := a20
  have hKo_ne20 : q20 = th → False := fun z => absurd ((congrArg (eK E12) z).symm.trans a20.2.1) (by rw [hK.2]; decide)
  refine G_fldI (T := TX9) (N := 30) (ci := 8) (k := 22) rfl inG9 (lwg (List.mem_of_getElem? (i := 953) (by decide +kernel)) rfl) rfl (by decide) rfl (by decide) tyX9 tyX9_ok nmX9 rfl rfl (fun _ => rfl) (fun _ => rfl) h hI hG hth hK n22 (lwg (List.mem_of_getElem? (i := 144) (by decide +kernel)) rfl) (N' := 22) (by decide) (by decide) (Nat.le_of_ble_eq_true rfl) (Nat.le_of_ble_eq_true rfl) (Nat.le_of_ble_eq_true rfl) dX9_init_105 dX9_init_107 rfl (fun E13 M13 q22 h hG hKp hkp hK f22 hko a22 hq22 u22 u22l => ?_)
  have f0 := (hko 0 (by decide)).trans f0
  have a0 := hKp.A a0
  have v0_0 := (((hKp _ a0_o.1).2.2.2 (fun z => hKo_ne0 z)).2.2.1 0).trans v0_0
  have v0_1 := (((hKp _ a0_o.1).2.2.2 (fun z => hKo_ne0 z)).2.2.1 1).trans v0_1
  have v0_2 := (((hKp _ a0_o.1).2.2.2 (fun z => hKo_ne0 z)).2.2.1 2).trans v0_2
  have f7 := (hko 7 (by decide)).trans f7
  have a7 := hKp.A a7
  have f8 := (hko 8 (by decide)).trans f8
  have a8 := hKp.A a8
  have f9 := (hko 9 (by decide)).trans f9
  have a9 := hKp.A a9
  have f10 := (hko 10 (by decide)).trans f10
  have a10 := hKp.A a10
  have f11 := (hko 11 (by decide)).trans f11
  have a11 := hKp.A a11
  have f12 := (hko 12 (by decide)).trans f12
  have a12 := hKp.A a12
  have f13 := (hko 13 (by decide)).trans f13
  have a13 := hKp.A a13
  have f14 := (hko 14 (by decide)).trans f14
  have a14 := hKp.A a14
  have f15 := (hko 15 (by decide)).trans f15
  have a15 := hKp.A a15
  have f19 := (hko 19 (by decide)).trans f19
  have a19 := hKp.A a19
  have f20 := (hko 20 (by decide)).trans f20
  have a20 := hKp.A a20
  have n23 := (hko 23 (by decide)).trans n23
  have n24 := (hko 24 (by decide)).trans n24
  have n27 := (hko 27 (by decide)).trans n27
  have n28 := (hko 28 (by decide)).trans n28
  have i1 := (hkp 1).1.trans i1
  have i2 := (hkp 2).1.trans i2
  have i3 := (hkp 3).1.trans i3
  have i4 := (hkp 4).1.trans i4
  have i5 := (hkp 5).1.trans i5
  have i6 := (hkp 6).1.trans i6
  have i16 := (hkp 16).1.trans i16
  have i17 := (hkp 17).1.trans i17
  have i18 := (hkp 18).1.trans i18
  have i21 := (hkp 21).1.trans i21
  have l25 := (hkp 25).2.trans l25
  have l26 := (hkp 26).2.trans l26
  have l29 := (hkp 29).2.trans l29
  refine G_aload_n h dX9_init_110 (i := 0) rfl rfl rfl ?_
  refine G_sipush h dX9_init_111 (v := 164) (by decide) rfl ?_
  have hWc := hG.2.2.2.2.1 hW
  have hKo := hK
  have a0_o := a0
  have hKo_ne0 : q0 = th → False := fun z => absurd ((congrArg (eK E13) z).symm.trans a0.2.1) (by rw [hK.2]; decide)
  have a7_o := a7
  have hKo_ne7 : q7 = th → False := fun z => absurd ((congrArg (eK E13) z).symm.trans a7.2.1) (by rw [hK.2]; decide)
  have a8_o := a8
  have hKo_ne8 : q8 = th → False := fun z => absurd ((congrArg (eK E13) z).symm.trans a8.2.1) (by rw [hK.2]; decide)
  have a9_o := a9
  have hKo_ne9 : q9 = th → False := fun z => absurd ((congrArg (eK E13) z).symm.trans a9.2.1) (by rw [hK.2]; decide)
  have a10_o := a10
  have hKo_ne10 : q10 = th → False := fun z => absurd ((congrArg (eK E13) z).symm.trans a10.2.1) (by rw [hK.2]; decide)
  have a11_o := a11
  have hKo_ne11 : q11 = th → False := fun z => absurd ((congrArg (eK E13) z).symm.trans a11.2.1) (by rw [hK.2]; decide)
  have a12_o := a12
  have hKo_ne12 : q12 = th → False := fun z => absurd ((congrArg (eK E13) z).symm.trans a12.2.1) (by rw [hK.2]; decide)
  have a13_o := a13
  have hKo_ne13 : q13 = th → False := fun z => absurd ((congrArg (eK E13) z).symm.trans a13.2.1) (by rw [hK.2]; decide)
  have a14_o := a14
  have hKo_ne14 : q14 = th → False := fun z => absurd ((congrArg (eK E13) z).symm.trans a14.2.1) (by rw [hK.2]; decide)
  have a15_o := a15
  have hKo_ne15 : q15 = th → False := fun z => absurd ((congrArg (eK E13) z).symm.trans a15.2.1) (by rw [hK.2]; decide)
  have a19_o := a19
  have hKo_ne19 : q19 = th → False := fun z => absurd ((congrArg (eK E13) z).symm.trans a19.2.1) (by rw [hK.2]; decide)
  have a20_o := a20
  have hKo_ne20 : q20 = th → False := fun z => absurd ((congrArg (eK E13) z).symm.trans a20.2.1) (by rw [hK.2]; decide)
  have a22_o := a22
  have hKo_ne22 : q22 = th → False := fun z => absurd ((congrArg (eK E13) z).symm.trans a22.2.1) (by rw [hK.2]; decide)
  refine G_fldJ (T := TX9) (N := 30) (ci := 8) (k := 23) rfl inG9 (lwg (List.mem_of_getElem? (i := 954) (by decide +kernel)) rfl) rfl (by decide) rfl (by decide) tyX9 tyX9_ok nmX9 rfl rfl (fun _ => rfl) (fun _ => rfl) h hI hG hth hK n23 (lwg (List.mem_of_getElem? (i := 1022) (by decide +kernel)) rfl) (N' := 164) (by decide) (by decide) (Nat.le_of_ble_eq_true rfl) (Nat.le_of_ble_eq_true rfl) (Nat.le_of_ble_eq_true rfl) dX9_init_114 dX9_init_116 rfl (fun E14 M14 q23 h hG hKp hkp hK f23 hko a23 hq23 u23 u23l => ?_)
  have f0 := (hko 0 (by decide)).trans f0
  have a0 := hKp.A a0
  have v0_0 := (((hKp _ a0_o.1).2.2.2 (fun z => hKo_ne0 z)).2.2.1 0).trans v0_0
  have v0_1 := (((hKp _ a0_o.1).2.2.2 (fun z => hKo_ne0 z)).2.2.1 1).trans v0_1
  have v0_2 := (((hKp _ a0_o.1).2.2.2 (fun z => hKo_ne0 z)).2.2.1 2).trans v0_2
  have f7 := (hko 7 (by decide)).trans f7
  have a7 := hKp.A a7
  have f8 := (hko 8 (by decide)).trans f8
  have a8 := hKp.A a8
  have f9 := (hko 9 (by decide)).trans f9
  have a9 := hKp.A a9
  have f10 := (hko 10 (by decide)).trans f10
  have a10 := hKp.A a10
  have f11 := (hko 11 (by decide)).trans f11
  have a11 := hKp.A a11
  have f12 := (hko 12 (by decide)).trans f12
  have a12 := hKp.A a12
  have f13 := (hko 13 (by decide)).trans f13
  have a13 := hKp.A a13
  have f14 := (hko 14 (by decide)).trans f14
  have a14 := hKp.A a14
  have f15 := (hko 15 (by decide)).trans f15
  have a15 := hKp.A a15
  have f19 := (hko 19 (by decide)).trans f19
  have a19 := hKp.A a19
  have f20 := (hko 20 (by decide)).trans f20
  have a20 := hKp.A a20
  have f22 := (hko 22 (by decide)).trans f22
  have a22 := hKp.A a22
  have n24 := (hko 24 (by decide)).trans n24
  have n27 := (hko 27 (by decide)).trans n27
  have n28 := (hko 28 (by decide)).trans n28
  have i1 := (hkp 1).1.trans i1
  have i2 := (hkp 2).1.trans i2
  have i3 := (hkp 3).1.trans i3
  have i4 := (hkp 4).1.trans i4
  have i5 := (hkp 5).1.trans i5
  have i6 := (hkp 6).1.trans i6
  have i16 := (hkp 16).1.trans i16
  have i17 := (hkp 17).1.trans i17
  have i18 := (hkp 18).1.trans i18
  have i21 := (hkp 21).1.trans i21
  have l25 := (hkp 25).2.trans l25
  have l26 := (hkp 26).2.trans l26
  have l29 := (hkp 29).2.trans l29
  refine G_aload_n h dX9_init_119 (i := 0) rfl rfl rfl ?_
  refine G_bipush h dX9_init_120 (v := 24) (by decide) rfl ?_
  have hWc := hG.2.2.2.2.1 hW
  have hKo := hK
  have a0_o := a0
  have hKo_ne0 : q0 = th → False := fun z => absurd ((congrArg (eK E14) z).symm.trans a0.2.1) (by rw [hK.2]; decide)
  have a7_o := a7
  have hKo_ne7 : q7 = th → False := fun z => absurd ((congrArg (eK E14) z).symm.trans a7.2.1) (by rw [hK.2]; decide)
  have a8_o := a8
  have hKo_ne8 : q8 = th → False := fun z => absurd ((congrArg (eK E14) z).symm.trans a8.2.1) (by rw [hK.2]; decide)
  have a9_o := a9
  have hKo_ne9 : q9 = th → False := fun z => absurd ((congrArg (eK E14) z).symm.trans a9.2.1) (by rw [hK.2]; decide)
  have a10_o := a10
  have hKo_ne10 : q10 = th → False := fun z => absurd ((congrArg (eK E14) z).symm.trans a10.2.1) (by rw [hK.2]; decide)
  have a11_o := a11
  have hKo_ne11 : q11 = th → False := fun z => absurd ((congrArg (eK E14) z).symm.trans a11.2.1) (by rw [hK.2]; decide)
  have a12_o := a12
  have hKo_ne12 : q12 = th → False := fun z => absurd ((congrArg (eK E14) z).symm.trans a12.2.1) (by rw [hK.2]; decide)
  have a13_o := a13
  have hKo_ne13 : q13 = th → False := fun z => absurd ((congrArg (eK E14) z).symm.trans a13.2.1) (by rw [hK.2]; decide)
  have a14_o := a14
  have hKo_ne14 : q14 = th → False := fun z => absurd ((congrArg (eK E14) z).symm.trans a14.2.1) (by rw [hK.2]; decide)
  have a15_o := a15
  have hKo_ne15 : q15 = th → False := fun z => absurd ((congrArg (eK E14) z).symm.trans a15.2.1) (by rw [hK.2]; decide)
  have a19_o := a19
  have hKo_ne19 : q19 = th → False := fun z => absurd ((congrArg (eK E14) z).symm.trans a19.2.1) (by rw [hK.2]; decide)
  have a20_o := a20
  have hKo_ne20 : q20 = th → False := fun z => absurd ((congrArg (eK E14) z).symm.trans a20.2.1) (by rw [hK.2]; decide)
  have a22_o := a22
  have hKo_ne22 : q22 = th → False := fun z => absurd ((congrArg (eK E14) z).symm.trans a22.2.1) (by rw [hK.2]; decide)
  have a23_o := a23
  have hKo_ne23 : q23 = th → False := fun z => absurd ((congrArg (eK E14) z).symm.trans a23.2.1) (by rw [hK.2]; decide)
  refine G_fldI (T := TX9) (N := 30) (ci := 8) (k := 24) rfl inG9 (lwg (List.mem_of_getElem? (i := 955) (by decide +kernel)) rfl) rfl (by decide) rfl (by decide) tyX9 tyX9_ok nmX9 rfl rfl (fun _ => rfl) (fun _ => rfl) h hI hG hth hK n24 (lwg (List.mem_of_getElem? (i := 144) (by decide +kernel)) rfl) (N' := 24) (by decide) (by decide) (Nat.le_of_ble_eq_true rfl) (Nat.le_of_ble_eq_true rfl) (Nat.le_of_ble_eq_true rfl) dX9_init_122 dX9_init_124 rfl (fun E15 M15 q24 h hG hKp hkp hK f24 hko a24 hq24 u24 u24l => ?_)
  have f0 := (hko 0 (by decide)).trans f0
  have a0 := hKp.A a0
  have v0_0 := (((hKp _ a0_o.1).2.2.2 (fun z => hKo_ne0 z)).2.2.1 0).trans v0_0
  have v0_1 := (((hKp _ a0_o.1).2.2.2 (fun z => hKo_ne0 z)).2.2.1 1).trans v0_1
  have v0_2 := (((hKp _ a0_o.1).2.2.2 (fun z => hKo_ne0 z)).2.2.1 2).trans v0_2
  have f7 := (hko 7 (by decide)).trans f7
  have a7 := hKp.A a7
  have f8 := (hko 8 (by decide)).trans f8
  have a8 := hKp.A a8
  have f9 := (hko 9 (by decide)).trans f9
  have a9 := hKp.A a9
  have f10 := (hko 10 (by decide)).trans f10
  have a10 := hKp.A a10
  have f11 := (hko 11 (by decide)).trans f11
  have a11 := hKp.A a11
  have f12 := (hko 12 (by decide)).trans f12
  have a12 := hKp.A a12
  have f13 := (hko 13 (by decide)).trans f13
  have a13 := hKp.A a13
  have f14 := (hko 14 (by decide)).trans f14
  have a14 := hKp.A a14
  have f15 := (hko 15 (by decide)).trans f15
  have a15 := hKp.A a15
  have f19 := (hko 19 (by decide)).trans f19
  have a19 := hKp.A a19
  have f20 := (hko 20 (by decide)).trans f20
  have a20 := hKp.A a20
  have f22 := (hko 22 (by decide)).trans f22
  have a22 := hKp.A a22
  have f23 := (hko 23 (by decide)).trans f23
  have a23 := hKp.A a23
  have n27 := (hko 27 (by decide)).trans n27
  have n28 := (hko 28 (by decide)).trans n28
  have i1 := (hkp 1).1.trans i1
  have i2 := (hkp 2).1.trans i2
  have i3 := (hkp 3).1.trans i3
  have i4 := (hkp 4).1.trans i4
  have i5 := (hkp 5).1.trans i5
  have i6 := (hkp 6).1.trans i6
  have i16 := (hkp 16).1.trans i16
  have i17 := (hkp 17).1.trans i17
  have i18 := (hkp 18).1.trans i18
  have i21 := (hkp 21).1.trans i21
  have l25 := (hkp 25).2.trans l25
  have l26 := (hkp 26).2.trans l26
  have l29 := (hkp 29).2.trans l29
  refine G_aload_n h dX9_init_127 (i := 0) rfl rfl rfl ?_
  refine G_lconst h dX9_init_128 (v := 1) (by decide) rfl ?_
  have hWc := hG.2.2.2.2.1 hW
  have hKo := hK
  have a0_o := a0
  have hKo_ne0 : q0 = th → False := fun z => absurd ((congrArg (eK E15) z).symm.trans a0.2.1) (by rw [hK.2]; decide)
  have a7_o := a7
  have hKo_ne7 : q7 = th → False := fun z => absurd ((congrArg (eK E15) z).symm.trans a7.2.1) (by rw [hK.2]; decide)
  have a8_o := a8
  have hKo_ne8 : q8 = th → False := fun z => absurd ((congrArg (eK E15) z).symm.trans a8.2.1) (by rw [hK.2]; decide)
  have a9_o := a9
  have hKo_ne9 : q9 = th → False := fun z => absurd ((congrArg (eK E15) z).symm.trans a9.2.1) (by rw [hK.2]; decide)
  have a10_o := a10
  have hKo_ne10 : q10 = th → False := fun z => absurd ((congrArg (eK E15) z).symm.trans a10.2.1) (by rw [hK.2]; decide)
  have a11_o := a11
  have hKo_ne11 : q11 = th → False := fun z => absurd ((congrArg (eK E15) z).symm.trans a11.2.1) (by rw [hK.2]; decide)
  have a12_o := a12
  have hKo_ne12 : q12 = th → False := fun z => absurd ((congrArg (eK E15) z).symm.trans a12.2.1) (by rw [hK.2]; decide)
  have a13_o := a13
  have hKo_ne13 : q13 = th → False := fun z => absurd ((congrArg (eK E15) z).symm.trans a13.2.1) (by rw [hK.2]; decide)
  have a14_o := a14
  have hKo_ne14 : q14 = th → False := fun z => absurd ((congrArg (eK E15) z).symm.trans a14.2.1) (by rw [hK.2]; decide)
  have a15_o := a15
  have hKo_ne15 : q15 = th → False := fun z => absurd ((congrArg (eK E15) z).symm.trans a15.2.1) (by rw [hK.2]; decide)
  have a19_o := a19
  have hKo_ne19 : q19 = th → False := fun z => absurd ((congrArg (eK E15) z).symm.trans a19.2.1) (by rw [hK.2]; decide)
  have a20_o := a20
  have hKo_ne20 : q20 = th → False := fun z => absurd ((congrArg (eK E15) z).symm.trans a20.2.1) (by rw [hK.2]; decide)
  have a22_o := a22
  have hKo_ne22 : q22 = th → False := fun z => absurd ((congrArg (eK E15) z).symm.trans a22.2.1) (by rw [hK.2]; decide)
  have a23_o := a23
  have hKo_ne23 : q23 = th → False := fun z => absurd ((congrArg (eK E15) z).symm.trans a23.2.1) (by rw [hK.2]; decide)
  have a24_o := a24
  have hKo_ne24 : q24 = th → False := fun z => absurd ((congrArg (eK E15) z).symm.trans a24.2.1) (by rw [hK.2]; decide)
  refine G_putl h (T := TX9) (N := 30) (ci := 8) (k := 26) rfl inG9 (lwg (List.mem_of_getElem? (i := 957) (by decide +kernel)) rfl) rfl (by decide) rfl (by decide) tyX9 tyX9_ok nmX9 rfl rfl dX9_init_129 (Or.inr rfl) hK rfl ?_
  obtain ⟨M16, hM16⟩ : ∃ z, z = wl M15 th 26 (1 : Int64) := ⟨_, rfl⟩
  rw [← hM16]
  have hG : Gr E M E15 M16 th := by rw [hM16]; exact gr_wl hG
  have hKp : Keep E15 M15 E15 M16 th := by rw [hM16]; exact keep_wl
  have v0_0 := (((hKp _ a0_o.1).2.2.2 (fun z => hKo_ne0 z)).2.2.1 0).trans v0_0
  have v0_1 := (((hKp _ a0_o.1).2.2.2 (fun z => hKo_ne0 z)).2.2.1 1).trans v0_1
  have v0_2 := (((hKp _ a0_o.1).2.2.2 (fun z => hKo_ne0 z)).2.2.1 2).trans v0_2
  have i1 := (show mi M16 th 1 = mi M15 th 1 by rw [hM16]; rfl).trans i1
  have i2 := (show mi M16 th 2 = mi M15 th 2 by rw [hM16]; rfl).trans i2
  have i3 := (show mi M16 th 3 = mi M15 th 3 by rw [hM16]; rfl).trans i3
  have i4 := (show mi M16 th 4 = mi M15 th 4 by rw [hM16]; rfl).trans i4
  have i5 := (show mi M16 th 5 = mi M15 th 5 by rw [hM16]; rfl).trans i5
  have i6 := (show mi M16 th 6 = mi M15 th 6 by rw [hM16]; rfl).trans i6
  have i16 := (show mi M16 th 16 = mi M15 th 16 by rw [hM16]; rfl).trans i16
  have i17 := (show mi M16 th 17 = mi M15 th 17 by rw [hM16]; rfl).trans i17
  have i18 := (show mi M16 th 18 = mi M15 th 18 by rw [hM16]; rfl).trans i18
  have i21 := (show mi M16 th 21 = mi M15 th 21 by rw [hM16]; rfl).trans i21
  have l25 := (show ml M16 th 25 = ml M15 th 25 by rw [hM16]; rw [ml_wl]; exact if_neg (fun z => absurd z.2 (by decide))).trans l25
  have l26 : ml M16 th 26 = (1 : Int64) := by rw [hM16, ml_wl]; exact if_pos ⟨rfl, rfl⟩
  have l29 := (show ml M16 th 29 = ml M15 th 29 by rw [hM16]; rw [ml_wl]; exact if_neg (fun z => absurd z.2 (by decide))).trans l29
  refine G_aload_n h dX9_init_132 (i := 0) rfl rfl rfl ?_
  refine G_sipush h dX9_init_133 (v := 600) (by decide) rfl ?_
  have hWc := hG.2.2.2.2.1 hW
  have hKo := hK
  have a0_o := a0
  have hKo_ne0 : q0 = th → False := fun z => absurd ((congrArg (eK E15) z).symm.trans a0.2.1) (by rw [hK.2]; decide)
  have a7_o := a7
  have hKo_ne7 : q7 = th → False := fun z => absurd ((congrArg (eK E15) z).symm.trans a7.2.1) (by rw [hK.2]; decide)
  have a8_o := a8
  have hKo_ne8 : q8 = th → False := fun z => absurd ((congrArg (eK E15) z).symm.trans a8.2.1) (by rw [hK.2]; decide)
  have a9_o := a9
  have hKo_ne9 : q9 = th → False := fun z => absurd ((congrArg (eK E15) z).symm.trans a9.2.1) (by rw [hK.2]; decide)
  have a10_o := a10
  have hKo_ne10 : q10 = th → False := fun z => absurd ((congrArg (eK E15) z).symm.trans a10.2.1) (by rw [hK.2]; decide)
  have a11_o := a11
  have hKo_ne11 : q11 = th → False := fun z => absurd ((congrArg (eK E15) z).symm.trans a11.2.1) (by rw [hK.2]; decide)
  have a12_o := a12
  have hKo_ne12 : q12 = th → False := fun z => absurd ((congrArg (eK E15) z).symm.trans a12.2.1) (by rw [hK.2]; decide)
  have a13_o := a13
  have hKo_ne13 : q13 = th → False := fun z => absurd ((congrArg (eK E15) z).symm.trans a13.2.1) (by rw [hK.2]; decide)
  have a14_o := a14
  have hKo_ne14 : q14 = th → False := fun z => absurd ((congrArg (eK E15) z).symm.trans a14.2.1) (by rw [hK.2]; decide)
  have a15_o := a15
  have hKo_ne15 : q15 = th → False := fun z => absurd ((congrArg (eK E15) z).symm.trans a15.2.1) (by rw [hK.2]; decide)
  have a19_o := a19
  have hKo_ne19 : q19 = th → False := fun z => absurd ((congrArg (eK E15) z).symm.trans a19.2.1) (by rw [hK.2]; decide)
  have a20_o := a20
  have hKo_ne20 : q20 = th → False := fun z => absurd ((congrArg (eK E15) z).symm.trans a20.2.1) (by rw [hK.2]; decide)
  have a22_o := a22
  have hKo_ne22 : q22 = th → False := fun z => absurd ((congrArg (eK E15) z).symm.trans a22.2.1) (by rw [hK.2]; decide)
  have a23_o := a23
  have hKo_ne23 : q23 = th → False := fun z => absurd ((congrArg (eK E15) z).symm.trans a23.2.1) (by rw [hK.2]; decide)
  have a24_o := a24
  have hKo_ne24 : q24 = th → False := fun z => absurd ((congrArg (eK E15) z).symm.trans a24.2.1) (by rw [hK.2]; decide)
  refine G_fldI (T := TX9) (N := 30) (ci := 8) (k := 27) rfl inG9 (lwg (List.mem_of_getElem? (i := 958) (by decide +kernel)) rfl) rfl (by decide) rfl (by decide) tyX9 tyX9_ok nmX9 rfl rfl (fun _ => rfl) (fun _ => rfl) h hI hG hth hK n27 (lwg (List.mem_of_getElem? (i := 144) (by decide +kernel)) rfl) (N' := 600) (by decide) (by decide) (Nat.le_of_ble_eq_true rfl) (Nat.le_of_ble_eq_true rfl) (Nat.le_of_ble_eq_true rfl) dX9_init_136 dX9_init_138 rfl (fun E17 M17 q27 h hG hKp hkp hK f27 hko a27 hq27 u27 u27l => ?_)
  have f0 := (hko 0 (by decide)).trans f0
  have a0 := hKp.A a0
  have v0_0 := (((hKp _ a0_o.1).2.2.2 (fun z => hKo_ne0 z)).2.2.1 0).trans v0_0
  have v0_1 := (((hKp _ a0_o.1).2.2.2 (fun z => hKo_ne0 z)).2.2.1 1).trans v0_1
  have v0_2 := (((hKp _ a0_o.1).2.2.2 (fun z => hKo_ne0 z)).2.2.1 2).trans v0_2
  have f7 := (hko 7 (by decide)).trans f7
  have a7 := hKp.A a7
  have f8 := (hko 8 (by decide)).trans f8
  have a8 := hKp.A a8
  have f9 := (hko 9 (by decide)).trans f9
  have a9 := hKp.A a9
  have f10 := (hko 10 (by decide)).trans f10
  have a10 := hKp.A a10
  have f11 := (hko 11 (by decide)).trans f11
  have a11 := hKp.A a11
  have f12 := (hko 12 (by decide)).trans f12
  have a12 := hKp.A a12
  have f13 := (hko 13 (by decide)).trans f13
  have a13 := hKp.A a13
  have f14 := (hko 14 (by decide)).trans f14
  have a14 := hKp.A a14
  have f15 := (hko 15 (by decide)).trans f15
  have a15 := hKp.A a15
  have f19 := (hko 19 (by decide)).trans f19
  have a19 := hKp.A a19
  have f20 := (hko 20 (by decide)).trans f20
  have a20 := hKp.A a20
  have f22 := (hko 22 (by decide)).trans f22
  have a22 := hKp.A a22
  have f23 := (hko 23 (by decide)).trans f23
  have a23 := hKp.A a23
  have f24 := (hko 24 (by decide)).trans f24
  have a24 := hKp.A a24
  have n28 := (hko 28 (by decide)).trans n28
  have i1 := (hkp 1).1.trans i1
  have i2 := (hkp 2).1.trans i2
  have i3 := (hkp 3).1.trans i3
  have i4 := (hkp 4).1.trans i4
  have i5 := (hkp 5).1.trans i5
  have i6 := (hkp 6).1.trans i6
  have i16 := (hkp 16).1.trans i16
  have i17 := (hkp 17).1.trans i17
  have i18 := (hkp 18).1.trans i18
  have i21 := (hkp 21).1.trans i21
  have l25 := (hkp 25).2.trans l25
  have l26 := (hkp 26).2.trans l26
  have l29 := (hkp 29).2.trans l29
  refine G_aload_n h dX9_init_141 (i := 0) rfl rfl rfl ?_
  refine G_iconst h dX9_init_142 (v := 2) (by decide) rfl ?_
  have hWc := hG.2.2.2.2.1 hW
  have hKo := hK
  have a0_o := a0
  have hKo_ne0 : q0 = th → False := fun z => absurd ((congrArg (eK E17) z).symm.trans a0.2.1) (by rw [hK.2]; decide)
  have a7_o := a7
  have hKo_ne7 : q7 = th → False := fun z => absurd ((congrArg (eK E17) z).symm.trans a7.2.1) (by rw [hK.2]; decide)
  have a8_o := a8
  have hKo_ne8 : q8 = th → False := fun z => absurd ((congrArg (eK E17) z).symm.trans a8.2.1) (by rw [hK.2]; decide)
  have a9_o := a9
  have hKo_ne9 : q9 = th → False := fun z => absurd ((congrArg (eK E17) z).symm.trans a9.2.1) (by rw [hK.2]; decide)
  have a10_o := a10
  have hKo_ne10 : q10 = th → False := fun z => absurd ((congrArg (eK E17) z).symm.trans a10.2.1) (by rw [hK.2]; decide)
  have a11_o := a11
  have hKo_ne11 : q11 = th → False := fun z => absurd ((congrArg (eK E17) z).symm.trans a11.2.1) (by rw [hK.2]; decide)
  have a12_o := a12
  have hKo_ne12 : q12 = th → False := fun z => absurd ((congrArg (eK E17) z).symm.trans a12.2.1) (by rw [hK.2]; decide)
  have a13_o := a13
  have hKo_ne13 : q13 = th → False := fun z => absurd ((congrArg (eK E17) z).symm.trans a13.2.1) (by rw [hK.2]; decide)
  have a14_o := a14
  have hKo_ne14 : q14 = th → False := fun z => absurd ((congrArg (eK E17) z).symm.trans a14.2.1) (by rw [hK.2]; decide)
  have a15_o := a15
  have hKo_ne15 : q15 = th → False := fun z => absurd ((congrArg (eK E17) z).symm.trans a15.2.1) (by rw [hK.2]; decide)
  have a19_o := a19
  have hKo_ne19 : q19 = th → False := fun z => absurd ((congrArg (eK E17) z).symm.trans a19.2.1) (by rw [hK.2]; decide)
  have a20_o := a20
  have hKo_ne20 : q20 = th → False := fun z => absurd ((congrArg (eK E17) z).symm.trans a20.2.1) (by rw [hK.2]; decide)
  have a22_o := a22
  have hKo_ne22 : q22 = th → False := fun z => absurd ((congrArg (eK E17) z).symm.trans a22.2.1) (by rw [hK.2]; decide)
  have a23_o := a23
  have hKo_ne23 : q23 = th → False := fun z => absurd ((congrArg (eK E17) z).symm.trans a23.2.1) (by rw [hK.2]; decide)
  have a24_o := a24
  have hKo_ne24 : q24 = th → False := fun z => absurd ((congrArg (eK E17) z).symm.trans a24.2.1) (by rw [hK.2]; decide)
  have a27_o := a27
  have hKo_ne27 : q27 = th → False := fun z => absurd ((congrArg (eK E17) z).symm.trans a27.2.1) (by rw [hK.2]; decide)
  refine G_fldI (T := TX9) (N := 30) (ci := 8) (k := 28) rfl inG9 (lwg (List.mem_of_getElem? (i := 959) (by decide +kernel)) rfl) rfl (by decide) rfl (by decide) tyX9 tyX9_ok nmX9 rfl rfl (fun _ => rfl) (fun _ => rfl) h hI hG hth hK n28 (lwg (List.mem_of_getElem? (i := 144) (by decide +kernel)) rfl) (N' := 2) (by decide) (by decide) (Nat.le_of_ble_eq_true rfl) (Nat.le_of_ble_eq_true rfl) (Nat.le_of_ble_eq_true rfl) dX9_init_143 dX9_init_145 rfl (fun E18 M18 q28 h hG hKp hkp hK f28 hko a28 hq28 u28 u28l => ?_)
  have f0 := (hko 0 (by decide)).trans f0
  have a0 := hKp.A a0
  have v0_0 := (((hKp _ a0_o.1).2.2.2 (fun z => hKo_ne0 z)).2.2.1 0).trans v0_0
  have v0_1 := (((hKp _ a0_o.1).2.2.2 (fun z => hKo_ne0 z)).2.2.1 1).trans v0_1
  have v0_2 := (((hKp _ a0_o.1).2.2.2 (fun z => hKo_ne0 z)).2.2.1 2).trans v0_2
  have f7 := (hko 7 (by decide)).trans f7
  have a7 := hKp.A a7
  have f8 := (hko 8 (by decide)).trans f8
  have a8 := hKp.A a8
  have f9 := (hko 9 (by decide)).trans f9
  have a9 := hKp.A a9
  have f10 := (hko 10 (by decide)).trans f10
  have a10 := hKp.A a10
  have f11 := (hko 11 (by decide)).trans f11
  have a11 := hKp.A a11
  have f12 := (hko 12 (by decide)).trans f12
  have a12 := hKp.A a12
  have f13 := (hko 13 (by decide)).trans f13
  have a13 := hKp.A a13
  have f14 := (hko 14 (by decide)).trans f14
  have a14 := hKp.A a14
  have f15 := (hko 15 (by decide)).trans f15
  have a15 := hKp.A a15
  have f19 := (hko 19 (by decide)).trans f19
  have a19 := hKp.A a19
  have f20 := (hko 20 (by decide)).trans f20
  have a20 := hKp.A a20
  have f22 := (hko 22 (by decide)).trans f22
  have a22 := hKp.A a22
  have f23 := (hko 23 (by decide)).trans f23
  have a23 := hKp.A a23
  have f24 := (hko 24 (by decide)).trans f24
  have a24 := hKp.A a24
  have f27 := (hko 27 (by decide)).trans f27
  have a27 := hKp.A a27
  have i1 := (hkp 1).1.trans i1
  have i2 := (hkp 2).1.trans i2
  have i3 := (hkp 3).1.trans i3
  have i4 := (hkp 4).1.trans i4
  have i5 := (hkp 5).1.trans i5
  have i6 := (hkp 6).1.trans i6
  have i16 := (hkp 16).1.trans i16
  have i17 := (hkp 17).1.trans i17
  have i18 := (hkp 18).1.trans i18
  have i21 := (hkp 21).1.trans i21
  have l25 := (hkp 25).2.trans l25
  have l26 := (hkp 26).2.trans l26
  have l29 := (hkp 29).2.trans l29
  have v28_0 := u28 0
  have v28_1 := u28 1
  refine G_aload_n h dX9_init_148 (i := 0) rfl rfl rfl ?_
  have hGm := gr_mark (c := 8) hG hK.1 (Or.inl rfl) (by rw [hK.2]; omega) (fun e he => by
      simp only [rqT, List.mem_cons, List.not_mem_nil, or_false] at he
      rcases he with rfl | rfl | rfl | rfl | rfl | rfl | rfl | rfl | rfl | rfl | rfl | rfl | rfl | rfl | rfl | rfl | rfl
      · exact okA f0 a0
      · exact okA f7 a7
      · exact okA f8 a8
      · exact okA f9 a9
      · exact okA f10 a10
      · exact okA f11 a11
      · exact okA f12 a12
      · exact okA f13 a13
      · exact okA f14 a14
      · exact okA f15 a15
      · exact okA f19 a19
      · exact okA f20 a20
      · exact okA f22 a22
      · exact okA f23 a23
      · exact okA f24 a24
      · exact okA f27 a27
      · exact okA f28 a28) (fun z => absurd z (by decide))
  refine G_mark (q := th) (c := 8) hK.2 (Or.inl (by decide)) (WM_setK (by rw [hK.2]; omega) (by decide)) ?_
  have h := Cx_same (E' := setK E18 th 8) ⟨rfl, rfl, rfl, rfl, rfl⟩ h
  have hK4 : isK (setK E18 th 8) th 8 := ⟨hK.1, va_up_self _ _ _⟩
  obtain ⟨Mr, r1, r2, r3⟩ := begin_spec (setK E18 th 8) M18 th
  refine G_lVv h (ok_X9_begin (WF_of (hGm.2.2.2.2.1 hW)) l0 hK4 r1) (ci := 8) (C := RX9) (T := TX9) (N := 30) (n := 0) rfl (by decide) rfl ⟨by decide +kernel, by decide +kernel, by decide +kernel⟩ (lwg (List.mem_of_getElem? (i := 927) (by decide +kernel)) rfl) (lwg (List.mem_of_getElem? (i := 929) (by decide +kernel)) rfl) (lwg (List.mem_of_getElem? (i := 27) (by decide +kernel)) rfl) (lwg (List.mem_of_getElem? (i := 84) (by decide +kernel)) rfl) (lwg (List.mem_of_getElem? (i := 930) (by decide +kernel)) rfl) dX9_init_149 hK4 (as := []) rfl rfl ⟨rfl, rfl, (Nat.le_of_ble_eq_true rfl), (Nat.le_of_ble_eq_true rfl)⟩ rfl (Nat.le_of_ble_eq_true rfl) ⟨(Nat.le_of_ble_eq_true rfl), (Nat.le_of_ble_eq_true rfl)⟩ ?_
  have g11 : rr (setK E18 th 8) th 11 = q11 := rr_of f11
  rw [g11] at r2
  have nq : q11 ∉ eL E := (hGm.2.2.1 th 11 q11 hK.1 (Or.inr rfl) f11).2
  have nt : q11 ≠ th := fun z => nq (by rw [z]; exact hth)
  have d0 : q0 ≠ q11 := fun z => absurd (hGm.2.2.2.1 th 0 th 11 q0 hK.1 hK.1 (Or.inr rfl) (Or.inr rfl) f0 (by rw [z]; exact f11)).2 (by decide)
  have nt0 : q0 ≠ th := fun z => (hGm.2.2.1 th 0 q0 hK.1 (Or.inr rfl) f0).2 (by rw [z]; exact hth)
  have d28 : q28 ≠ q11 := fun z => absurd (hGm.2.2.2.1 th 28 th 11 q28 hK.1 hK.1 (Or.inr rfl) (Or.inr rfl) f28 (by rw [z]; exact f11)).2 (by decide)
  have nt28 : q28 ≠ th := fun z => (hGm.2.2.1 th 28 q28 hK.1 (Or.inr rfl) f28).2 (by rw [z]; exact hth)
  have hGr : Gr E M (setK E18 th 8) Mr th := by
    obtain ⟨y1, y2, y3, y4, y5, y6⟩ := hGm
    refine ⟨y1, fun q hq => ⟨(y2 q hq).1, (y2 q hq).2.1, fun hne => ?_⟩, y3, y4, y5, fun q hq hn h13 j hj => ?_⟩
    · obtain ⟨x1, x2, x3, x4, x5⟩ := (y2 q hq).2.2 hne
      refine ⟨x1, x2, fun k => ?_, fun k => ?_, fun k => ?_⟩
      · rw [r2, if_neg (fun z => nq (by rw [← z.1]; exact hq)), if_neg (fun z => hne z.1)]
        exact x3 k
      · exact (congrArg (fun z => z.1 q k) r3).trans (x4 k)
      · exact (congrArg (fun z => z.2 q k) r3).trans (x5 k)
    · exact (congrArg (fun z => z.2 q j) r3).trans (y6 q hq hn h13 j hj)
  have o0 : ∀ k, mi Mr q0 k = mi M18 q0 k := fun k => by rw [r2, if_neg (fun z => d0 z.1), if_neg (fun z => nt0 z.1)]
  have o28 : ∀ k, mi Mr q28 k = mi M18 q28 k := fun k => by rw [r2, if_neg (fun z => d28 z.1), if_neg (fun z => nt28 z.1)]
  refine hR _ _ _ _ dX9_init_152 hGr.1 ⟨hGr, hK4, ?_⟩
  unfold Mo0
  rw [show rr (setK E18 th 8) th 0 = q0 from rr_of f0, g11, show rr (setK E18 th 8) th 28 = q28 from rr_of f28]
  refine ⟨fun j hj => ?_, ?_, ?_, ?_, ?_, ?_, ?_, ?_, ?_, fun j hj => ?_, (congrArg (fun z => z.1 th 25) r3).trans l25, (congrArg (fun z => z.1 th 26) r3).trans l26, (o28 0).trans v28_0, (o28 1).trans v28_1⟩
  · rcases (show j = 0 ∨ j = 1 ∨ j = 2 by omega) with rfl | rfl | rfl
    · exact (o0 0).trans v0_0
    · exact (o0 1).trans v0_1
    · exact (o0 2).trans v0_2
  · rw [r2, if_neg (fun z => nt z.1.symm), if_pos ⟨rfl, by decide⟩]
  · rw [r2, if_neg (fun z => nt z.1.symm), if_pos ⟨rfl, by decide⟩]
  · rw [r2, if_neg (fun z => nt z.1.symm), if_pos ⟨rfl, by decide⟩]
  · rw [r2, if_neg (fun z => nt z.1.symm), if_pos ⟨rfl, by decide⟩]
  · rw [r2, if_neg (fun z => nt z.1.symm), if_pos ⟨rfl, by decide⟩]
  · rw [r2, if_neg (fun z => nt z.1.symm), if_pos ⟨rfl, by decide⟩]
  · rw [r2, if_neg (fun z => nt z.1.symm), if_neg (fun z => absurd z.2 (by decide))]; exact i16
  · rw [r2, if_neg (fun z => nt z.1.symm), if_pos ⟨rfl, by decide⟩]
  · rw [r2, if_pos ⟨rfl, hj⟩]
end Ctors
