/-! making objects -/
section Make
def setK (E : Env1) (q c : Nat) : Env1 := (eL E, va_up (eK E) q c, eN E, eR E, eB E, eD E, eC E, sK E, sV E)
def setR (E : Env1) (a k v : Nat) : Env1 := (eL E, eK E, eN E, fun q j => if q = a ∧ j = k then some v else eR E q j, eB E, eD E, eC E, sK E, sV E)
def addO (E : Env1) (q c n : Nat) : Env1 := (eL E ++ [q], va_up (eK E) q c, va_up (eN E) q n, fun a k => if a = q then none else eR E a k, eB E, eD E, eC E, sK E, sV E)
def clr (M : Mem) (q : Nat) : Mem := (fun a j => if a = q then 0 else M.1 a j, fun a j => if a = q then 0 else M.2.1 a j, M.2.2)
theorem mi_clr (M : Mem) (q a j : Nat) : mi (clr M q) a j = if a = q then 0 else mi M a j := rfl
theorem ml_clr (M : Mem) (q a j : Nat) : ml (clr M q) a j = if a = q then 0 else ml M a j := rfl
theorem mr_clr (M : Mem) (q a j : Nat) : mr (clr M q) a j = mr M a j := rfl
def Same (E E' : Env1) : Prop := eB E' = eB E ∧ eD E' = eD E ∧ eC E' = eC E ∧ sK E' = sK E ∧ sV E' = sV E
theorem Same.rf {E : Env1} : Same E E := ⟨rfl, rfl, rfl, rfl, rfl⟩
theorem Same.tr {E E1 E2 : Env1} (h : Same E E1) (h2 : Same E1 E2) : Same E E2 := ⟨h2.1.trans h.1, h2.2.1.trans h.2.1, h2.2.2.1.trans h.2.2.1, h2.2.2.2.1.trans h.2.2.2.1, h2.2.2.2.2.trans h.2.2.2.2⟩
theorem eA_same {E E' : Env1} (h : Same E E') : eA E' = eA E := by
  unfold eA
  rw [h.1]
theorem tysE_same {E E' : Env1} (h : Same E E') : tysE E' = tysE E := by
  unfold tysE
  rw [h.2.2.1]
theorem SW_same {E E' : Env1} (h : Same E E') {U : State} {H : Heap} (z : SW E U H) : SW E' U H := by
  unfold SW at z ⊢
  rw [eA_same h, h.2.2.2.1, h.2.2.2.2]
  exact z
theorem Cx_same {X : Ctx} {l0 : Launch} {E E' : Env1} {own : String} {cc : ByteArray} {ret : Option FieldType} {nL : Nat} {rm : Room} (hs : Same E E') (h : Cx X l0 E own cc ret nL rm) : Cx X l0 E' own cc ret nL rm := by
  obtain ⟨p, l, e, R, s, m, args, below, meth, c, Q, nl⟩ := X
  obtain ⟨hx, hb, hr, hml, hown, hts, hlk, hK, hB, h1, h2, h3, hN, hZ⟩ := h
  exact ⟨hx, hb, hr, hml, hown, hts, hlk, by rw [tysE_same hs, hs.2.1]; exact hK, by rw [hs.1]; exact hB, h1, h2, h3, hN, SW_same hs hZ⟩
/-- a cell by what it is made of -/
theorem cel_cong {E E' : Env1} {M M' : Mem} {b : Nat} (hs : Same E E') (h1 : eK E' b = eK E b) (h2 : eN E' b = eN E b) (h3 : ∀ k, eR E' b k = eR E b k) (h4 : ∀ j, mi M' b j = mi M b j) (h5 : ∀ j, ml M' b j = ml M b j) (h6 : ∀ j, mr M' b j = mr M b j) : cel E' M' b = cel E M b := by
  have f : ∀ (ts : List Nat) (k : Nat), flds E' M' b k ts = flds E M b k ts := by
    intro ts
    induction ts with
    | nil => intro k; rfl
    | cons t ts ih =>
      intro k
      simp only [flds]
      rw [h4, h5, h3, ih]
  unfold cel
  rw [h1, h2, hs.2.2.1, show mi M' b = mi M b from funext h4, show ml M' b = ml M b from funext h5, show mr M' b = mr M b from funext h6, show eR E' b = eR E b from funext h3, f]
theorem pl_cong {E E' : Env1} {M M' : Mem} (hL : eL E' = eL E) (h : ∀ b, cel E' M' b = cel E M b) : va_pl (eL E') (cel E' M') = va_pl (eL E) (cel E M) := by
  rw [hL]
  exact va_pl_congr h
theorem cel_mark {E : Env1} {M : Mem} {q c : Nat} (h : eK E q = 20 + c) (hc : c < 9 ∨ c = 12 ∨ c = 13) (b : Nat) : cel (setK E q c) M b = cel E M b := by
  by_cases hb : b = q
  · subst hb
    have e1 : eK (setK E b c) b = c := va_up_self _ _ _
    rcases hc with hc | rfl | rfl
    · rw [cel_obj e1 hc, cel_raw h hc]
      have f : ∀ (ts : List Nat) (k : Nat), flds (setK E b c) M b k ts = flds E M b k ts := by
        intro ts
        induction ts with
        | nil => intro k; rfl
        | cons t ts ih => intro k; simp only [flds]; rw [ih]; rfl
      rw [f]
    · rw [cel_12 e1]
      unfold cel
      rw [h]
      rfl
    · rw [cel_13 e1]
      unfold cel
      rw [h]
      rfl
  · exact cel_cong (E := E) (M := M) (E' := setK E q c) (M' := M) ⟨rfl, rfl, rfl, rfl, rfl⟩ (va_up_ne _ _ hb) rfl (fun _ => rfl) (fun _ => rfl) (fun _ => rfl) (fun _ => rfl)
section RowsM
variable {X : Ctx} {l0 : Launch} {E : Env1} {cs : Nat × Nat} {own : String} {cc : ByteArray} {ret : Option FieldType} {nL pc : Nat} {rm : Room} {L L' : List (Option Value)} {st : List Value} {M : Mem}
/-- an object is whole: its kind is said -/
theorem G_mark {q c : Nat} (hq : eK E q = 20 + c) (hc : c < 9 ∨ c = 12 ∨ c = 13) (hWM : WM E M → WM (setK E q c) M) (k : G X (setK E q c) cs pc L st M) : G X E cs pc L st M := by
  obtain ⟨p, l, e, R, s, m, args, below, meth, c0, Q, nl⟩ := X
  intro H locs ls hW hM hl
  obtain ⟨hP, hD, hS⟩ := hW
  have e1 := pl_cong (E := E) (E' := setK E q c) (M := M) (M' := M) rfl (fun b => cel_mark hq hc b)
  exact k H locs ls ⟨by rw [e1]; exact hP, by rw [e1]; exact hD, hS⟩ (hWM hM) hl
theorem isK_addO {q r c n k : Nat} (hr : isK E r k) (hq : q ∉ eL E) : isK (addO E q c n) r k := ⟨List.mem_append_left _ hr.1, (va_up_ne (eK E) c (fun e : r = q => hq (by rw [← e]; exact hr.1))).trans hr.2⟩
theorem WM_addO {q c n : Nat} (hq : q ∉ eL E) (hc : c ≠ 13) (h : WM E M) : WM (addO E q c n) (clr M q) := by
  intro a ha j hj
  have haq : a ≠ q := by
    intro e
    subst e
    exact hc ((va_up_self _ _ _).symm.trans ha.2.1)
  have h1 : a ∈ eL E := by
    rcases List.mem_append.mp ha.1 with z | z
    · exact z
    · exact absurd (List.mem_singleton.mp z) haq
  exact isK_addO (h a ⟨h1, (va_up_ne _ _ haq).symm.trans ha.2.1, (va_up_ne _ _ haq).symm.trans ha.2.2⟩ j hj) hq
/-- the fields of a new object -/
def dfl (ts : List Nat) : List Value := ts.map fun t => if t = 0 then Value.int 0 else if t = 1 then Value.long 0 else .null
theorem flds_new {q c n : Nat} : ∀ (ts : List Nat) (k : Nat), flds (addO E q c n) (clr M q) q k ts = dfl ts
  | [], _ => rfl
  | t :: ts, k => by
    simp only [flds, dfl, List.map_cons]
    rw [mi_clr, ml_clr, if_pos rfl, if_pos rfl, show eR (addO E q c n) q k = none from if_pos rfl, flds_new ts (k + 1)]
    rfl
theorem pl_addO {q c n : Nat} {e : va_E} (hq : q ∉ eL E) (he : cel (addO E q c n) (clr M q) q = e) : va_pl (eL E) (cel E M) ++ [(q, e)] = va_pl (eL (addO E q c n)) (cel (addO E q c n) (clr M q)) := by
  rw [va_pl_push hq]
  refine congrArg (fun f => va_pl (eL E ++ [q]) f) (funext fun b => ?_)
  by_cases hb : b = q
  · subst hb
    rw [va_up_self, he]
  · rw [va_up_ne _ _ hb]
    exact (cel_cong (E := E) (M := M) (E' := addO E q c n) (M' := clr M q) ⟨rfl, rfl, rfl, rfl, rfl⟩ (va_up_ne _ _ hb) (va_up_ne _ _ hb) (fun k => if_neg hb) (fun j => if_neg hb) (fun j => if_neg hb) (fun _ => rfl)).symm
theorem fresh_of {q : Nat} {e : va_E} {A : Nat → Prop} (hD : va_D A (va_pl (eL E) (cel E M) ++ [(q, e)])) : q ∉ eL E ∧ A q := by
  refine ⟨fun hq => ?_, hD.2 _ (q, e) (List.getElem?_concat_length ..)⟩
  obtain ⟨k, hk⟩ := va_pl_get (X := []) (f := cel E M) hq
  rw [pl0] at hk
  have hl := (List.getElem?_eq_some_iff.mp hk).1
  have := hD.1 k (va_pl (eL E) (cel E M)).length (q, cel E M q) (q, e) (by rw [List.getElem?_append_left hl]; exact hk) (List.getElem?_concat_length ..) rfl
  omega
theorem G_new (h : Cx X l0 E own cc ret nL rm) {C : String} {T : u_T} {N ci idx : Nat} (hc : vwCl[ci]? = some (C, T, N)) (hci : ci < 9) (hin : ∀ w ∈ u_ws C T N, w ∈ lw_g) (ty0 : Nat → FieldType) (hty : ∀ k, k < N → parseFieldDescriptor (T k).2.2.1 = some (ty0 k)) (hdf : ∀ j, j < N → defaultValue (ty0 j) = vp_V (dfl (tg ci)) j) (hcl : Cond.classLink own idx C ∈ lw_g) (hinst : Cond.instantiable C N ∈ lw_g) (hini : Cond.initialized C ∈ lw_g) (hcells : cs.1 + 1 ≤ rm.cells) (hslots : cs.2 + N ≤ rm.slots) (hd : decode cc pc = .ok (.new idx, 3)) {pc' : Nat} (hp : pc + 3 = pc')
    (kk : ∀ q, q ∉ eL E → eB E ≤ q → G X (addO E q (20 + ci) 0) (cs.1 + 1, cs.2 + N) pc' L (.ref q :: st) (clr M q)) : G X E cs pc L st M := by
  subst hp
  obtain ⟨p, l, e, R, s, m, args, below, meth, c, Q, nl⟩ := X
  obtain ⟨hx, hb, hr, hml, hown, hts, hlk, hK, hB, rfl, rfl, rfl, hN, hZ⟩ := h
  intro H locs ls hW hM hl
  obtain ⟨hP, hD, hS⟩ := hW
  refine va_new hx hb hts hin ty0 hty hown (hts _ hcl) (hts _ hinst) (hts _ hini) hK hP hD hS (fun q hq => Nat.le_trans hB hq) hc hdf hcells hslots hd (fun q H1 hP1 hD1 hS1 => ?_)
  obtain ⟨hq, hA⟩ := fresh_of hD1
  have e1 := pl_addO (E := E) (M := M) (q := q) (c := 20 + ci) (n := 0) (e := .inr (ci, dfl (tg ci))) hq (by rw [cel_raw (E := addO E q (20 + ci) 0) (c := ci) (va_up_self (eK E) q (20 + ci)) hci, flds_new])
  rw [e1] at hP1 hD1
  exact kk q hq hA H1 locs ls ⟨hP1, hD1, hS1⟩ (WM_addO hq (by omega) hM) hl
theorem G_newaI (h : Cx X l0 E own cc ret nL rm) {n : Int32} {N' : Nat} (harr : Cond.arrayClass .int ∈ lw_g) (hn : ¬ n < 0) (hN' : n.toNatClampNeg = N') (hbytes : N' * componentBytes .int ≤ 536870912) (hcells : cs.1 + 1 ≤ rm.cells) (hslots : cs.2 + N' ≤ rm.slots) (hd : decode cc pc = .ok (.newarray .int, 2)) {pc' : Nat} (hp : pc + 2 = pc')
    (kk : ∀ q, q ∉ eL E → eB E ≤ q → G X (addO E q 9 N') (cs.1 + 1, cs.2 + N') pc' L (.ref q :: st) (clr M q)) : G X E cs pc L (.int n :: st) M := by
  subst hp
  obtain ⟨p, l, e, R, s, m, args, below, meth, c, Q, nl⟩ := X
  obtain ⟨hx, hb, hr, hml, hown, hts, hlk, hK, hB, rfl, rfl, rfl, hN, hZ⟩ := h
  intro H locs ls hW hM hl
  obtain ⟨hP, hD, hS⟩ := hW
  refine va_newa (atype := .int) hx hb (hts _ harr) rfl hK hP hD hS (fun q hq => Nat.le_trans hB hq) (a0 := (N', .inl (fun _ => 0))) (fun cA => rfl) hn hN' hbytes hcells hslots hd (fun q cA H1 hK1 hP1 hD1 hS1 => ?_)
  have ec : cA = eC E 9 := by
    have a1 : s.vm.findClass _ = some cA := (hK1.2 5 (cA, .int) rfl).2
    have a2 : s.vm.findClass _ = some (eC E 9) := (hK.2 0 (eC E 9, .int) rfl).2
    exact Option.some.inj (a1.symm.trans a2)
  subst ec
  obtain ⟨hq, hA⟩ := fresh_of hD1
  have e1 := pl_addO (E := E) (M := M) (q := q) (c := 9) (n := N') (e := .inl (eC E 9, N', .inl (fun _ => 0))) hq (by
    rw [cel_9 (E := addO E q 9 N') (va_up_self (eK E) q 9), show eN (addO E q 9 N') q = N' from va_up_self _ _ _, show mi (clr M q) q = fun _ => 0 from funext fun j => if_pos rfl]
    rfl)
  rw [e1] at hP1 hD1
  exact kk q hq hA H1 locs ls ⟨hP1, hD1, hS1⟩ (WM_addO hq (by omega) hM) hl
theorem G_newaJ (h : Cx X l0 E own cc ret nL rm) {n : Int32} {N' : Nat} (harr : Cond.arrayClass .long ∈ lw_g) (hn : ¬ n < 0) (hN' : n.toNatClampNeg = N') (hbytes : N' * componentBytes .long ≤ 536870912) (hcells : cs.1 + 1 ≤ rm.cells) (hslots : cs.2 + N' ≤ rm.slots) (hd : decode cc pc = .ok (.newarray .long, 2)) {pc' : Nat} (hp : pc + 2 = pc')
    (kk : ∀ q, q ∉ eL E → eB E ≤ q → G X (addO E q 10 N') (cs.1 + 1, cs.2 + N') pc' L (.ref q :: st) (clr M q)) : G X E cs pc L (.int n :: st) M := by
  subst hp
  obtain ⟨p, l, e, R, s, m, args, below, meth, c, Q, nl⟩ := X
  obtain ⟨hx, hb, hr, hml, hown, hts, hlk, hK, hB, rfl, rfl, rfl, hN, hZ⟩ := h
  intro H locs ls hW hM hl
  obtain ⟨hP, hD, hS⟩ := hW
  refine va_newa (atype := .long) hx hb (hts _ harr) rfl hK hP hD hS (fun q hq => Nat.le_trans hB hq) (a0 := (N', .inr (.inl (fun _ => 0)))) (fun cA => rfl) hn hN' hbytes hcells hslots hd (fun q cA H1 hK1 hP1 hD1 hS1 => ?_)
  have ec : cA = eC E 10 := by
    have a1 : s.vm.findClass _ = some cA := (hK1.2 5 (cA, .long) rfl).2
    have a2 : s.vm.findClass _ = some (eC E 10) := (hK.2 1 (eC E 10, .long) rfl).2
    exact Option.some.inj (a1.symm.trans a2)
  subst ec
  obtain ⟨hq, hA⟩ := fresh_of hD1
  have e1 := pl_addO (E := E) (M := M) (q := q) (c := 10) (n := N') (e := .inl (eC E 10, N', .inr (.inl (fun _ => 0)))) hq (by
    rw [cel_10 (E := addO E q 10 N') (va_up_self (eK E) q 10), show eN (addO E q 10 N') q = N' from va_up_self _ _ _, show ml (clr M q) q = fun _ => 0 from funext fun j => if_pos rfl]
    rfl)
  rw [e1] at hP1 hD1
  exact kk q hq hA H1 locs ls ⟨hP1, hD1, hS1⟩ (WM_addO hq (by omega) hM) hl
theorem G_newaZ (h : Cx X l0 E own cc ret nL rm) {n : Int32} {N' : Nat} (harr : Cond.arrayClass .boolean ∈ lw_g) (hn : ¬ n < 0) (hN' : n.toNatClampNeg = N') (hbytes : N' * componentBytes .boolean ≤ 536870912) (hcells : cs.1 + 1 ≤ rm.cells) (hslots : cs.2 + N' ≤ rm.slots) (hd : decode cc pc = .ok (.newarray .boolean, 2)) {pc' : Nat} (hp : pc + 2 = pc')
    (kk : ∀ q, q ∉ eL E → eB E ≤ q → G X (addO E q 11 N') (cs.1 + 1, cs.2 + N') pc' L (.ref q :: st) (clr M q)) : G X E cs pc L (.int n :: st) M := by
  subst hp
  obtain ⟨p, l, e, R, s, m, args, below, meth, c, Q, nl⟩ := X
  obtain ⟨hx, hb, hr, hml, hown, hts, hlk, hK, hB, rfl, rfl, rfl, hN, hZ⟩ := h
  intro H locs ls hW hM hl
  obtain ⟨hP, hD, hS⟩ := hW
  refine va_newa (atype := .boolean) hx hb (hts _ harr) rfl hK hP hD hS (fun q hq => Nat.le_trans hB hq) (a0 := (N', .inl (fun _ => 0))) (fun cA => rfl) hn hN' hbytes hcells hslots hd (fun q cA H1 hK1 hP1 hD1 hS1 => ?_)
  have ec : cA = eC E 11 := by
    have a1 : s.vm.findClass _ = some cA := (hK1.2 5 (cA, .boolean) rfl).2
    have a2 : s.vm.findClass _ = some (eC E 11) := (hK.2 2 (eC E 11, .boolean) rfl).2
    exact Option.some.inj (a1.symm.trans a2)
  subst ec
  obtain ⟨hq, hA⟩ := fresh_of hD1
  have e1 := pl_addO (E := E) (M := M) (q := q) (c := 11) (n := N') (e := .inl (eC E 11, N', .inl (fun _ => 0))) hq (by
    rw [cel_11 (E := addO E q 11 N') (va_up_self (eK E) q 11), show eN (addO E q 11 N') q = N' from va_up_self _ _ _, show mi (clr M q) q = fun _ => 0 from funext fun j => if_pos rfl]
    rfl)
  rw [e1] at hP1 hD1
  exact kk q hq hA H1 locs ls ⟨hP1, hD1, hS1⟩ (WM_addO hq (by omega) hM) hl
theorem G_newqH (h : Cx X l0 E own cc ret nL rm) {idx : Nat} {n : Int32} {N' : Nat} (hcl : Cond.classLink own idx "StairManners$House" ∈ lw_g) (hn : ¬ n < 0) (hN' : n.toNatClampNeg = N') (hbytes : N' * 4 ≤ 536870912) (hcells : cs.1 + 1 ≤ rm.cells) (hslots : cs.2 + N' ≤ rm.slots) (hd : decode cc pc = .ok (.anewarray idx, 3)) {pc' : Nat} (hp : pc + 3 = pc')
    (kk : ∀ q, q ∉ eL E → eB E ≤ q → G X (addO E q 32 N') (cs.1 + 1, cs.2 + N') pc' L (.ref q :: st) (clr M q)) : G X E cs pc L (.int n :: st) M := by
  subst hp
  obtain ⟨p, l, e, R, s, m, args, below, meth, c, Q, nl⟩ := X
  obtain ⟨hx, hb, hr, hml, hown, hts, hlk, hK, hB, rfl, rfl, rfl, hN, hZ⟩ := h
  intro H locs ls hW hM hl
  obtain ⟨hP, hD, hS⟩ := hW
  refine va_newq hx hb hown (hts _ hcl) (hN.2.2.2 _ (by simp [nwA])) hK hP hD hS (fun q hq => Nat.le_trans hB hq) hn hN' hbytes hcells hslots hd (fun q cA H1 hK1 hP1 hD1 hS1 => ?_)
  have ec : cA = eC E 12 := by
    obtain ⟨_, _, -, -, -, a1⟩ := (hK1.2 5 (cA, .object "StairManners$House") rfl).2
    obtain ⟨_, _, -, -, -, a2⟩ := (hK.2 3 (eC E 12, .object "StairManners$House") rfl).2
    exact Option.some.inj (a1.symm.trans a2)
  subst ec
  obtain ⟨hq, hA⟩ := fresh_of hD1
  have e1 := pl_addO (E := E) (M := M) (q := q) (c := 32) (n := N') (e := .inl (eC E 12, N', .inr (.inr (.inr (.inr (fun _ => none)))))) hq (by
    have ek : eK (addO E q 32 N') q = 32 := va_up_self _ _ _
    have en : eN (addO E q 32 N') q = N' := va_up_self _ _ _
    have er : eR (addO E q 32 N') q = fun _ => none := funext fun k => if_pos rfl
    unfold cel
    rw [ek, en, er]
    rfl)
  rw [e1] at hP1 hD1
  exact kk q hq hA H1 locs ls ⟨hP1, hD1, hS1⟩ (WM_addO hq (by omega) hM) hl
theorem G_newqS (h : Cx X l0 E own cc ret nL rm) {idx : Nat} {n : Int32} {N' : Nat} (hcl : Cond.classLink own idx "StairManners$Stand" ∈ lw_g) (hn : ¬ n < 0) (hN' : n.toNatClampNeg = N') (hbytes : N' * 4 ≤ 536870912) (hcells : cs.1 + 1 ≤ rm.cells) (hslots : cs.2 + N' ≤ rm.slots) (hd : decode cc pc = .ok (.anewarray idx, 3)) {pc' : Nat} (hp : pc + 3 = pc')
    (kk : ∀ q, q ∉ eL E → eB E ≤ q → G X (addO E q 33 N') (cs.1 + 1, cs.2 + N') pc' L (.ref q :: st) (clr M q)) : G X E cs pc L (.int n :: st) M := by
  subst hp
  obtain ⟨p, l, e, R, s, m, args, below, meth, c, Q, nl⟩ := X
  obtain ⟨hx, hb, hr, hml, hown, hts, hlk, hK, hB, rfl, rfl, rfl, hN, hZ⟩ := h
  intro H locs ls hW hM hl
  obtain ⟨hP, hD, hS⟩ := hW
  refine va_newq hx hb hown (hts _ hcl) (hN.2.2.2 _ (by simp [nwA])) hK hP hD hS (fun q hq => Nat.le_trans hB hq) hn hN' hbytes hcells hslots hd (fun q cA H1 hK1 hP1 hD1 hS1 => ?_)
  have ec : cA = eC E 13 := by
    obtain ⟨_, _, -, -, -, a1⟩ := (hK1.2 5 (cA, .object "StairManners$Stand") rfl).2
    obtain ⟨_, _, -, -, -, a2⟩ := (hK.2 4 (eC E 13, .object "StairManners$Stand") rfl).2
    exact Option.some.inj (a1.symm.trans a2)
  subst ec
  obtain ⟨hq, hA⟩ := fresh_of hD1
  have e1 := pl_addO (E := E) (M := M) (q := q) (c := 33) (n := N') (e := .inl (eC E 13, N', .inr (.inr (.inr (.inr (fun _ => none)))))) hq (by
    have ek : eK (addO E q 33 N') q = 33 := va_up_self _ _ _
    have en : eN (addO E q 33 N') q = N' := va_up_self _ _ _
    have er : eR (addO E q 33 N') q = fun _ => none := funext fun k => if_pos rfl
    unfold cel
    rw [ek, en, er]
    rfl)
  rw [e1] at hP1 hD1
  exact kk q hq hA H1 locs ls ⟨hP1, hD1, hS1⟩ (WM_addO hq (by omega) hM) hl
theorem flds_setr {a : Nat} (v : Nat) : ∀ (ts : List Nat) (k j : Nat), ts[j]? = some 2 → (flds E M a k ts).set j (.ref v) = flds (setR E a (k + j) v) M a k ts
  | [], _, _, h => by simp at h
  | u :: ts, k, 0, h => by
    have f : ∀ (us : List Nat) (i : Nat), k < i → flds (setR E a k v) M a i us = flds E M a i us := by
      intro us
      induction us with
      | nil => intro i _; rfl
      | cons t us ih =>
        intro i hi
        simp only [flds]
        rw [ih (i + 1) (by omega), show eR (setR E a k v) a i = eR E a i from if_neg (by omega)]
    simp at h
    subst h
    simp only [flds, List.set_cons_zero, Nat.add_zero]
    rw [f ts (k + 1) (by omega), show eR (setR E a k v) a k = some v from if_pos ⟨rfl, rfl⟩]
    rfl
  | u :: ts, k, j + 1, h => by
    have h2 := flds_setr (a := a) v ts (k + 1) j (by simpa using h)
    simp only [flds, List.set_cons_succ]
    rw [h2, show k + (j + 1) = k + 1 + j by omega, show eR (setR E a (k + 1 + j) v) a k = eR E a k from if_neg (by omega)]
theorem WM_setR {a k v : Nat} (h : WM E M) : WM (setR E a k v) M := h
/-- a final field is set, in the constructor -/
theorem G_putr (h : Cx X l0 E own cc ret nL rm) {C : String} {T : u_T} {N ci idx k a : Nat} (hc : vwCl[ci]? = some (C, T, N)) (hin : ∀ w ∈ u_ws C T N, w ∈ lw_g) (hlink : Cond.fieldLink own idx C (T k).2.1 (T k).2.2.1 ∈ lw_g) (hsame : (T k).1 = C) (hk : k < N) (ht : (tg ci)[k]? = some 2) (hci : ci < 9) (ty0 : Nat → FieldType) (hty : ∀ k, k < N → parseFieldDescriptor (T k).2.2.1 = some (ty0 k)) (hnm : ∀ a, a < N → ∀ b, b < N → a ≠ b → (T a).2.1 ≠ (T b).2.1) (hfin : (T k).2.2.2 = true) (hin2 : ∀ p l e R s m args below meth c Q nl, X = (p, l, e, R, s, m, args, below, meth, c, Q, nl) → meth.name = "<init>") (hCo : C = own) {ty : FieldType} (h0 : ty0 k = ty) {v : Nat} (hnr : narrow ty (.ref v) = .ref v) (hft : fits ty (.ref v) = true) (hd : decode cc pc = .ok (.putfield idx, 3)) (ha : isK E a (20 + ci)) {pc' : Nat} (hp : pc + 3 = pc') (kk : G X (setR E a k v) cs pc' L st M) : G X E cs pc L (.ref v :: .ref a :: st) M := by
  subst hp
  obtain ⟨p, l, e, R, s, m, args, below, meth, c, Q, nl⟩ := X
  obtain ⟨hx, hb, hr, hml, hown, hts, hlk, hK, hB, rfl, rfl, rfl, hN, hZ⟩ := h
  intro H locs ls hW hM hl
  obtain ⟨hP, hD, hS⟩ := hW
  obtain ⟨n, hn⟩ := va_pl_get (X := []) (f := cel E M) ha.1
  have hn2 := hn
  rw [pl0, cel_raw ha.2 hci] at hn2
  refine va_putF hx hb hts hin ty0 hty hnm hown hK hP hD hS n hn2 hc k hk (hts _ hlink) (fun x hx => by rw [hsame] at hx; exact hx) hfin (hin2 _ _ _ _ _ _ _ _ _ _ _ _ rfl) (hsame.trans hCo) (ty := ty) (v := .ref v) (by rw [hty k hk, h0]) hnr hft (by rw [flds_len]; exact (List.getElem?_eq_some_iff.mp ht).1) hd (fun H1 locs1 hP1 hD1 hS1 => ?_)
  have e1 := va_pl_set (X := []) (e := .inr (ci, (flds E M a 0 (tg ci)).set k (.ref v))) hD ha.1 hn
  have e2 : va_pl (eL E) (va_up (cel E M) a (.inr (ci, (flds E M a 0 (tg ci)).set k (.ref v)))) = va_pl (eL (setR E a k v)) (cel (setR E a k v) M) := by
    refine va_pl_congr (fun b => ?_)
    by_cases hb : b = a
    · subst hb
      rw [va_up_self, cel_raw (E := setR E b k v) ha.2 hci, flds_setr v (tg ci) 0 k ht, Nat.zero_add]
    · rw [va_up_ne _ _ hb]
      exact (cel_cong (E := E) (M := M) (E' := setR E a k v) (M' := M) ⟨rfl, rfl, rfl, rfl, rfl⟩ rfl rfl (fun j => if_neg (fun z => hb z.1)) (fun _ => rfl) (fun _ => rfl) (fun _ => rfl)).symm
  rw [pl0, pl0, e2] at e1
  rw [e1] at hP1 hD1
  exact kk H1 locs1 ls ⟨hP1, hD1, hS1⟩ hM hl
/-- an element of a row of stands, of houses, that is being filled -/
theorem G_astn33 (h : Cx X l0 E own cc ret nL rm) {a v n : Nat} {i : Int32} (hd : decode cc pc = .ok (.aastore, 1)) (ha : isA E a 33 n) (hv : isK E v 4) (hi : vp_in i n) {jx : Nat} (hj : i.toNatClampNeg = jx) {pc' : Nat} (hp : pc + 1 = pc') (kk : G X (setR E a jx v) cs pc' L st (wr M a jx v)) : G X E cs pc L (.ref v :: .int i :: .ref a :: st) M := by
  subst hp
  subst hj
  obtain ⟨p, l, e, R, s, m, args, below, meth, c, Q, nl⟩ := X
  obtain ⟨hx, hb, hr, hml, hown, hts, hlk, hK, hB, rfl, rfl, rfl, hN, hZ⟩ := h
  intro H locs ls hW hM hl
  obtain ⟨hP, hD, hS⟩ := hW
  obtain ⟨j, hn⟩ := va_pl_get (X := []) (f := cel E M) ha.1
  obtain ⟨j2, hn3⟩ := va_pl_get (X := []) (f := cel E M) hv.1
  have hn2 := hn
  have ce : cel E M a = .inl (eC E 13, eN E a, .inr (.inr (.inr (.inr (fun j => (eR E a j).map (fun _ => mr M a j)))))) := by
    unfold cel
    rw [ha.2.1]
    rfl
  rw [pl0, ce] at hn2
  rw [pl0, cel_obj hv.2 (by omega)] at hn3
  refine va_astq hx hb hK hP hD hS j 4 j2 4 (r := (RX5, TX5, 5)) hn2 rfl hn3 rfl (by rw [ha.2.2]; exact hi) hd (fun H1 locs1 hP1 hD1 hS1 => ?_)
  have e1 := fun e => va_pl_set (X := []) (e := e) hD ha.1 hn
  simp only [pl0] at e1
  have e2 : va_pl (eL E) (va_up (cel E M) a (.inl (eC E 13, eN E a, .inr (.inr (.inr (.inr (va_up (fun j => (eR E a j).map (fun _ => mr M a j)) i.toNatClampNeg (some v)))))))) = va_pl (eL (setR E a i.toNatClampNeg v)) (cel (setR E a i.toNatClampNeg v) (wr M a i.toNatClampNeg v)) := by
    refine va_pl_congr (fun b => ?_)
    by_cases hb : b = a
    · subst hb
      have ek : eK (setR E b i.toNatClampNeg v) b = 33 := ha.2.1
      rw [va_up_self]
      unfold cel
      rw [ek]
      refine congrArg (fun z => (Sum.inl (eC E 13, eN E b, Sum.inr (Sum.inr (Sum.inr (Sum.inr z)))) : va_E)) (funext fun x => ?_)
      by_cases hx2 : x = i.toNatClampNeg
      · subst hx2
        rw [va_up_self, mr_wr, if_pos ⟨rfl, rfl⟩, show eR (setR E b i.toNatClampNeg v) b i.toNatClampNeg = some v from if_pos ⟨rfl, rfl⟩]
        rfl
      · rw [va_up_ne _ _ hx2, mr_wr, if_neg (fun z => hx2 z.2), show eR (setR E b i.toNatClampNeg v) b x = eR E b x from if_neg (fun z => hx2 z.2)]
    · rw [va_up_ne _ _ hb]
      exact (cel_cong (E := E) (M := M) (E' := setR E a i.toNatClampNeg v) (M' := wr M a i.toNatClampNeg v) ⟨rfl, rfl, rfl, rfl, rfl⟩ rfl rfl (fun j => if_neg (fun z => hb z.1)) (fun _ => rfl) (fun _ => rfl) (fun j => by rw [mr_wr, if_neg (fun z => hb z.1)])).symm
  rw [e1, e2] at hP1 hD1
  refine kk H1 locs1 ls ⟨hP1, hD1, hS1⟩ ?_ hl
  intro q hq j hj
  rw [mr_wr, if_neg (fun z => by rw [z.1] at hq; exact absurd (hq.2.1.symm.trans ha.2.1) (by decide))]
  exact hM q hq j hj
theorem G_astn32 (h : Cx X l0 E own cc ret nL rm) {a v n : Nat} {i : Int32} (hd : decode cc pc = .ok (.aastore, 1)) (ha : isA E a 32 n) (hv : isK E v 0) (hi : vp_in i n) {jx : Nat} (hj : i.toNatClampNeg = jx) {pc' : Nat} (hp : pc + 1 = pc') (kk : G X (setR E a jx v) cs pc' L st M) : G X E cs pc L (.ref v :: .int i :: .ref a :: st) M := by
  subst hp
  subst hj
  obtain ⟨p, l, e, R, s, m, args, below, meth, c, Q, nl⟩ := X
  obtain ⟨hx, hb, hr, hml, hown, hts, hlk, hK, hB, rfl, rfl, rfl, hN, hZ⟩ := h
  intro H locs ls hW hM hl
  obtain ⟨hP, hD, hS⟩ := hW
  obtain ⟨j, hn⟩ := va_pl_get (X := []) (f := cel E M) ha.1
  obtain ⟨j2, hn3⟩ := va_pl_get (X := []) (f := cel E M) hv.1
  have hn2 := hn
  have ce : cel E M a = .inl (eC E 12, eN E a, .inr (.inr (.inr (.inr (eR E a))))) := by
    unfold cel
    rw [ha.2.1]
    rfl
  rw [pl0, ce] at hn2
  rw [pl0, cel_obj hv.2 (by omega)] at hn3
  refine va_astq hx hb hK hP hD hS j 3 j2 0 (r := (RX0, TX0, 11)) hn2 rfl hn3 rfl (by rw [ha.2.2]; exact hi) hd (fun H1 locs1 hP1 hD1 hS1 => ?_)
  have e1 := fun e => va_pl_set (X := []) (e := e) hD ha.1 hn
  simp only [pl0] at e1
  have e2 : va_pl (eL E) (va_up (cel E M) a (.inl (eC E 12, eN E a, .inr (.inr (.inr (.inr (va_up (eR E a) i.toNatClampNeg (some v)))))))) = va_pl (eL (setR E a i.toNatClampNeg v)) (cel (setR E a i.toNatClampNeg v) M) := by
    refine va_pl_congr (fun b => ?_)
    by_cases hb : b = a
    · subst hb
      have ek : eK (setR E b i.toNatClampNeg v) b = 32 := ha.2.1
      rw [va_up_self]
      unfold cel
      rw [ek]
      refine congrArg (fun z => (Sum.inl (eC E 12, eN E b, Sum.inr (Sum.inr (Sum.inr (Sum.inr z)))) : va_E)) (funext fun x => ?_)
      by_cases hx2 : x = i.toNatClampNeg
      · subst hx2
        rw [va_up_self]
        exact (if_pos ⟨rfl, rfl⟩).symm
      · rw [va_up_ne _ _ hx2]
        exact (if_neg (fun z => hx2 z.2)).symm
    · rw [va_up_ne _ _ hb]
      exact (cel_cong (E := E) (M := M) (E' := setR E a i.toNatClampNeg v) (M' := M) ⟨rfl, rfl, rfl, rfl, rfl⟩ rfl rfl (fun j => if_neg (fun z => hb z.1)) (fun _ => rfl) (fun _ => rfl) (fun _ => rfl)).symm
  rw [e1, e2] at hP1 hD1
  exact kk H1 locs1 ls ⟨hP1, hD1, hS1⟩ hM hl
end RowsM
end Make
