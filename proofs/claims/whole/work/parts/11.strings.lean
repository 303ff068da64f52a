/-! the six words of a text, and the JDK's members that read them -/
section Strs
def slen (i : Nat) : Nat := sLen.getD i 0
def sch (i k : Nat) : Int32 := ((((sByt.getD i []).getD k 0) &&& 255).toUInt32 % 65536).toInt32
section
variable {X : Ctx} {l0 : Launch} {E : Env1} {cs : Nat × Nat} {own : String} {cc : ByteArray} {ret : Option FieldType} {nL pc : Nat} {rm : Room} {L L' : List (Option Value)} {st : List Value} {M : Mem}
theorem G_sval (h : Cx X l0 E own cc ret nL rm) {i idx : Nat} (hi : i < 6) (hlink : Cond.fieldLink own idx "java/lang/String" "value" "[B" ∈ lw_g) (hd : decode cc pc = .ok (.getfield idx, 3)) {pc' : Nat} (hp : pc + 3 = pc') (kk : G X E cs pc' L (.ref (sV E i) :: st) M) : G X E cs pc L (.ref (sK E i) :: st) M := by
  subst hp
  obtain ⟨p, l, e, R, s, m, args, below, meth, c, Q, nl⟩ := X
  obtain ⟨hx, hb, hr, hml, hown, hts, hlk, hK, hB, rfl, rfl, rfl, hN, hZ⟩ := h
  intro H locs ls hW hM hl
  obtain ⟨hP, hD, hS⟩ := hW
  exact vk_getf hx hb (hZ.1.1 i hi).2.2.1 hS hown (hts _ hlink) (fun x h => h) hd (kk H locs ls ⟨hP, hD, hS⟩ hM hl)
theorem G_scod (h : Cx X l0 E own cc ret nL rm) {i idx : Nat} (hi : i < 6) (hlink : Cond.fieldLink own idx "java/lang/String" "coder" "B" ∈ lw_g) (hd : decode cc pc = .ok (.getfield idx, 3)) {pc' : Nat} (hp : pc + 3 = pc') (kk : G X E cs pc' L (.int 0 :: st) M) : G X E cs pc L (.ref (sK E i) :: st) M := by
  subst hp
  obtain ⟨p, l, e, R, s, m, args, below, meth, c, Q, nl⟩ := X
  obtain ⟨hx, hb, hr, hml, hown, hts, hlk, hK, hB, rfl, rfl, rfl, hN, hZ⟩ := h
  intro H locs ls hW hM hl
  obtain ⟨hP, hD, hS⟩ := hW
  exact vk_getf hx hb (hZ.1.1 i hi).2.1 hS hown (hts _ hlink) (fun x h => h) hd (kk H locs ls ⟨hP, hD, hS⟩ hM hl)
theorem G_scomp (h : Cx X l0 E own cc ret nL rm) {idx : Nat} (hlink : Cond.fieldLink own idx "java/lang/String" "COMPACT_STRINGS" "Z" ∈ lw_g) (hd : decode cc pc = .ok (.getstatic idx, 3)) {pc' : Nat} (hp : pc + 3 = pc') (kk : G X E cs pc' L (.int 1 :: st) M) : G X E cs pc L st M := by
  subst hp
  obtain ⟨p, l, e, R, s, m, args, below, meth, c, Q, nl⟩ := X
  obtain ⟨hx, hb, hr, hml, hown, hts, hlk, hK, hB, rfl, rfl, rfl, hN, hZ⟩ := h
  intro H locs ls hW hM hl
  obtain ⟨hP, hD, hS⟩ := hW
  exact va_gets hx hb hZ.2.2.1 hS hown (hts _ hlink) (fun x h => h) hd (kk H locs ls ⟨hP, hD, hS⟩ hM hl)
theorem G_sio (h : Cx X l0 E own cc ret nL rm) {idx : Nat} (hlink : Cond.fieldLink own idx "jdk/internal/util/Preconditions" "SIOOBE_FORMATTER" "Ljava/util/function/BiFunction;" ∈ lw_g) (hd : decode cc pc = .ok (.getstatic idx, 3)) {pc' : Nat} (hp : pc + 3 = pc') (kk : ∀ w : Option Nat, G X E cs pc' L (va_rf w :: st) M) : G X E cs pc L st M := by
  subst hp
  obtain ⟨p, l, e, R, s, m, args, below, meth, c, Q, nl⟩ := X
  obtain ⟨hx, hb, hr, hml, hown, hts, hlk, hK, hB, rfl, rfl, rfl, hN, hZ⟩ := h
  intro H locs ls hW hM hl
  obtain ⟨hP, hD, hS⟩ := hW
  obtain ⟨w, hw, hz⟩ := hZ.2.2.2
  rcases hw with rfl | ⟨a, rfl⟩
  · exact va_gets hx hb hz hS hown (hts _ hlink) (fun x h => h) hd (kk none H locs ls ⟨hP, hD, hS⟩ hM hl)
  · exact va_gets hx hb hz hS hown (hts _ hlink) (fun x h => h) hd (kk (some a) H locs ls ⟨hP, hD, hS⟩ hM hl)
theorem G_blen (h : Cx X l0 E own cc ret nL rm) {i : Nat} (hi : i < 6) (hd : decode cc pc = .ok (.arraylength, 1)) {pc' : Nat} (hp : pc + 1 = pc') (kk : G X E cs pc' L (.int (Int32.ofNat (slen i)) :: st) M) : G X E cs pc L (.ref (sV E i) :: st) M := by
  subst hp
  obtain ⟨p, l, e, R, s, m, args, below, meth, c, Q, nl⟩ := X
  obtain ⟨hx, hb, hr, hml, hown, hts, hlk, hK, hB, rfl, rfl, rfl, hN, hZ⟩ := h
  intro H locs ls hW hM hl
  obtain ⟨hP, hD, hS⟩ := hW
  exact va_tlen hx hb (hZ.1.1 i hi).2.2.2 hS rfl hd (kk H locs ls ⟨hP, hD, hS⟩ hM hl)
theorem G_bld (h : Cx X l0 E own cc ret nL rm) {i : Nat} {j : Int32} (hi : i < 6) (hj : vp_in j (slen i)) (hd : decode cc pc = .ok (.baload, 1)) {pc' : Nat} (hp : pc + 1 = pc') (kk : G X E cs pc' L (.int ((sByt.getD i []).getD (ix j) 0) :: st) M) : G X E cs pc L (.int j :: .ref (sV E i) :: st) M := by
  subst hp
  obtain ⟨p, l, e, R, s, m, args, below, meth, c, Q, nl⟩ := X
  obtain ⟨hx, hb, hr, hml, hown, hts, hlk, hK, hB, rfl, rfl, rfl, hN, hZ⟩ := h
  intro H locs ls hW hM hl
  obtain ⟨hP, hD, hS⟩ := hW
  exact va_tb hx hb (hZ.1.1 i hi).2.2.2 hS hj rfl hd (kk H locs ls ⟨hP, hD, hS⟩ hM hl)
theorem G_i2c (h : Cx X l0 E own cc ret nL rm) {x : Int32} (hd : decode cc pc = .ok (.i2c, 1)) {pc' : Nat} (hp : pc + 1 = pc') (kk : G X E cs pc' L (.int ((x.toUInt32 % 65536).toInt32) :: st) M) : G X E cs pc L (.int x :: st) M := by
  subst hp
  obtain ⟨p, l, e, R, s, m, args, below, meth, c, Q, nl⟩ := X
  obtain ⟨hx, hb, hr, hml, hown, hts, hlk, hK, hB, rfl, rfl, rfl, hN, hZ⟩ := h
  intro H locs ls hW hM hl
  obtain ⟨hP, hD, hS⟩ := hW
  exact lv_i2c hx hb hd rfl (kk H locs ls ⟨hP, hD, hS⟩ hM hl)
theorem G_ldcS (h : Cx X l0 E own cc ret nL rm) {i idx : Nat} (hi : i < 6) (hid : idx = 143 + 2 * i) (hw : own = RX7) (hd : decode cc pc = .ok (.ldc idx, 2)) {pc' : Nat} (hp : pc + 2 = pc') (kk : G X E cs pc' L (.ref (sK E i) :: st) M) : G X E cs pc L st M := by
  subst hp
  subst hid
  subst hw
  obtain ⟨p, l, e, R, s, m, args, below, meth, c, Q, nl⟩ := X
  obtain ⟨hx, hb, hr, hml, hown, hts, hlk, hK, hB, rfl, rfl, rfl, hN, hZ⟩ := h
  intro H locs ls hW hM hl
  obtain ⟨hP, hD, hS⟩ := hW
  exact va_ldcS hx hb hown (hZ.2.1 i hi) hd (kk H locs ls ⟨hP, hD, hS⟩ hM hl)
end
/-- an end of a small type -/
def RetN (X : Ctx) (E : Env1) (cc : ByteArray) (r : Int32) (M' : Mem) : Prop := ∀ pc L, decode cc pc = .ok (.ireturn, 1) → G X E (0, 0) pc L [.int r] M'
theorem mtN {y : MethodName} {cc : ByteArray} {maxL : Nat} {as : List Value} {rm : Room} {E : Env1} {M M' : Mem} {r : Int32} {L0 : List (Option Value)} (ty : FieldType) (l0 : Launch) (hn : narrow ty (.int r) = .int r) (hy : plainName y.cls = true) (hlen : (lg_sl as).length ≤ maxL) (hL0 : pad maxL (a0 as) = L0)
    (body : ∀ X : Ctx, Cx X l0 E y.cls cc (some ty) maxL rm → RetN X E cc r M' → G X E (0, 0) 0 L0 [] M) : Met l0 y (wsA y cc maxL (some ty)) rm (CP E M as) (CQi E r M') 0 0 (eA E) := by
  refine Met.ofW (cc := cc) (maxL := maxL) (ret := (some ty)) hy rfl ?_
  intro p e s m args below meth c s₁ B hml hv
  obtain ⟨rfl, hP, hK, hD, hB, hM, hN, hZ⟩ := hv
  have hts := atoms_spec (ws := wsA y cc maxL (some ty)) B.pre
  have hown : s.vm.findClass y.cls = some m.cls := findClass_of_methodNamed B.named
  have hh := B.exec
  have hb := B.bytes
  have hr := B.returns
  have hlk := B.notSynchronized
  rw [lg_entry_eq]
  have hX : Cx (p, l0, e, rm, s, m, as.toArray, below, meth, c, MQ below (CQi E r M') as.toArray s 0 0 (eA E), maxL) l0 E y.cls cc (some ty) maxL rm := ⟨hh, hb, hr, hml, hown, fun w hw => hts w (List.mem_cons_of_mem _ hw), hlk, hK, hB, rfl, rfl, rfl, hN, hZ⟩
  refine body _ hX ?_ s.heap [] _ ⟨hP, hD, va_S.rf⟩ hM (lvO_entry as hlen hL0)
  intro pc L hd
  intro H locs ls hW hM2 hl
  obtain ⟨hP2, hD2, hS2⟩ := hW
  exact W.zret hh hb hr hn (fun t ht hW2 => ⟨⟨r, (), rfl, rfl, by rw [ht]; exact hP2, va_K.moved hW2.alike hK, hD2, by rw [ht]; exact Nat.le_trans hB hS2.1, hM2, NW_warm hW2 hN, by rw [ht]; exact SW_go hZ hW2 hS2⟩, hS2.F ht⟩) hS2.2.2 hd hlk
def CQs (E : Env1) (k : Nat) (M' : Mem) : Array Value → State → Outcome → State → Prop := va_Qr (fun (_ : Unit) => True) (fun _ a t => a = sK E k ∧ PreU E M' t) (eA E)
def RetS (X : Ctx) (E : Env1) (cc : ByteArray) (k : Nat) (M' : Mem) : Prop := ∀ pc L, decode cc pc = .ok (.areturn, 1) → G X E (0, 0) pc L [.ref (sK E k)] M'
theorem mtS {y : MethodName} {cc : ByteArray} {maxL : Nat} {as : List Value} {rm : Room} {E : Env1} {M M' : Mem} {k : Nat} {L0 : List (Option Value)} (nm : String) (l0 : Launch) (hy : plainName y.cls = true) (hlen : (lg_sl as).length ≤ maxL) (hL0 : pad maxL (a0 as) = L0)
    (body : ∀ X : Ctx, Cx X l0 E y.cls cc (some (.object nm)) maxL rm → RetS X E cc k M' → G X E (0, 0) 0 L0 [] M) : Met l0 y (wsA y cc maxL (some (.object nm))) rm (CP E M as) (CQs E k M') 0 0 (eA E) := by
  refine Met.ofW (cc := cc) (maxL := maxL) (ret := (some (.object nm))) hy rfl ?_
  intro p e s m args below meth c s₁ B hml hv
  obtain ⟨rfl, hP, hK, hD, hB, hM, hN, hZ⟩ := hv
  have hts := atoms_spec (ws := wsA y cc maxL (some (.object nm))) B.pre
  have hown : s.vm.findClass y.cls = some m.cls := findClass_of_methodNamed B.named
  have hh := B.exec
  have hb := B.bytes
  have hr := B.returns
  have hlk := B.notSynchronized
  rw [lg_entry_eq]
  have hX : Cx (p, l0, e, rm, s, m, as.toArray, below, meth, c, MQ below (CQs E k M') as.toArray s 0 0 (eA E), maxL) l0 E y.cls cc (some (.object nm)) maxL rm := ⟨hh, hb, hr, hml, hown, fun w hw => hts w (List.mem_cons_of_mem _ hw), hlk, hK, hB, rfl, rfl, rfl, hN, hZ⟩
  refine body _ hX ?_ s.heap [] _ ⟨hP, hD, va_S.rf⟩ hM (lvO_entry as hlen hL0)
  intro pc L hd
  intro H locs ls hW hM2 hl
  obtain ⟨hP2, hD2, hS2⟩ := hW
  exact W.aret hh hb hr (Or.inl ⟨nm, rfl⟩) (Or.inr ⟨_, rfl⟩) (fun t ht hW2 => ⟨⟨(), _, rfl, trivial, rfl, by rw [ht]; exact hP2, va_K.moved hW2.alike hK, hD2, by rw [ht]; exact Nat.le_trans hB hS2.1, hM2, NW_warm hW2 hN, by rw [ht]; exact SW_go hZ hW2 hS2⟩, hS2.F ht⟩) hS2.2.2 hd hlk
section
variable {X : Ctx} {l0 : Launch} {E : Env1} {own : String} {cc : ByteArray} {ret : Option FieldType} {nL pc : Nat} {rm : Room} {L L' : List (Option Value)} {stk st : List Value} {M M' : Mem}
variable {y : MethodName} {cc2 : ByteArray} {maxL2 : Nat} {ret2 : Option FieldType} {rm2 : Room} {as : List Value} {idx n i : Nat}
/-- a member of one of the six words -/
theorem G_cVSi (h : Cx X l0 E own cc ret nL rm) {r : Int32} (hM0 : Met l0 y (wsA y cc2 maxL2 ret2) rm2 (CP E M (.ref (sK E i) :: as)) (CQi E r M') 0 0 (eA E)) (hi : i < 6) (hyC : y.cls = "java/lang/String") (hy : nameOk y n) (hlink : Cond.methodLink own idx y ∈ lw_g) (hinst : Cond.instanceMethod y ∈ lw_g) (hsel : Cond.selects "java/lang/String" y y ∈ lw_g) (hini : Cond.initialized "java/lang/String" ∈ lw_g) (hcode : Cond.code y cc2 maxL2 ret2 ∈ lw_g)
    (hd : decode cc pc = .ok (.invokevirtual idx, 3)) (hstk : stk = as.reverse ++ .ref (sK E i) :: st) {pc' : Nat} (hp : pc + 3 = pc') (hroom : roomOk rm2 rm maxL2) (hn : as.length = n) (hcat : (st.map fun v => v.category).sum ≤ 8) (kk : G X E (0, 0) pc' L (.int r :: st) M') : G X E (0, 0) pc L stk M := by
  subst hp
  obtain ⟨p, l, e, R, s, m, args, below, meth, c, Q, nl⟩ := X
  obtain ⟨hx, hb, hr, hml, hown, hts, hlk, hK, hB, rfl, rfl, rfl, hN, hZ⟩ := h
  intro H locs ls hW hM hl
  obtain ⟨hP, hD, hS⟩ := hW
  have hBH : eB E ≤ H.size := Nat.le_trans hB hS.1
  have hcw := callB_of (own := own) (index := idx) n hts (wsA_good hcode) rfl hroom.1 hroom.2.1 (by rw [hyC]; exact hts _ hini) (hts _ hlink) hy hroom.2.2
  refine va_calli (va_runV (C := "java/lang/String") ⟨hx, hb, hml, hown, hts⟩ hM0 ⟨hcw, hts _ hinst, hts _ hsel⟩ ⟨CP_blind, vk_recv hZ.1 hi hS, fun U hU hW => ⟨rfl, PreU_at hK hP hD hBH hM hN hS hZ hU hW⟩⟩ rfl hn hl.1 hstk (by simpa using hcat) hd ⟨Nat.zero_le _, Nat.zero_le _⟩) hS (fun _ _ z => z) (fun _ z => z) (fun r0 _ t H1 locs1 ht hvm hpost hB1 hz1 hk1 hS1 => ?_)
  obtain ⟨hP2, hK2, hD2, hB2, hM2, -, -⟩ := hB1
  rw [ht] at hP2
  obtain rfl := hpost
  exact kk H1 locs1 ls ⟨hP2, hD2, hS1⟩ hM2 hl
/-- a member of one of the six words -/
theorem G_cVSz (h : Cx X l0 E own cc ret nL rm) {r : Int32} (hM0 : Met l0 y (wsA y cc2 maxL2 ret2) rm2 (CP E M (.ref (sK E i) :: as)) (CQz E r M') 0 0 (eA E)) (hi : i < 6) (hyC : y.cls = "java/lang/String") (hy : nameOk y n) (hlink : Cond.methodLink own idx y ∈ lw_g) (hinst : Cond.instanceMethod y ∈ lw_g) (hsel : Cond.selects "java/lang/String" y y ∈ lw_g) (hini : Cond.initialized "java/lang/String" ∈ lw_g) (hcode : Cond.code y cc2 maxL2 ret2 ∈ lw_g)
    (hd : decode cc pc = .ok (.invokevirtual idx, 3)) (hstk : stk = as.reverse ++ .ref (sK E i) :: st) {pc' : Nat} (hp : pc + 3 = pc') (hroom : roomOk rm2 rm maxL2) (hn : as.length = n) (hcat : (st.map fun v => v.category).sum ≤ 8) (kk : (r = 0 ∨ r = 1) → G X E (0, 0) pc' L (.int r :: st) M') : G X E (0, 0) pc L stk M := by
  subst hp
  obtain ⟨p, l, e, R, s, m, args, below, meth, c, Q, nl⟩ := X
  obtain ⟨hx, hb, hr, hml, hown, hts, hlk, hK, hB, rfl, rfl, rfl, hN, hZ⟩ := h
  intro H locs ls hW hM hl
  obtain ⟨hP, hD, hS⟩ := hW
  have hBH : eB E ≤ H.size := Nat.le_trans hB hS.1
  have hcw := callB_of (own := own) (index := idx) n hts (wsA_good hcode) rfl hroom.1 hroom.2.1 (by rw [hyC]; exact hts _ hini) (hts _ hlink) hy hroom.2.2
  refine va_calli (va_runV (C := "java/lang/String") ⟨hx, hb, hml, hown, hts⟩ hM0 ⟨hcw, hts _ hinst, hts _ hsel⟩ ⟨CP_blind, vk_recv hZ.1 hi hS, fun U hU hW => ⟨rfl, PreU_at hK hP hD hBH hM hN hS hZ hU hW⟩⟩ rfl hn hl.1 hstk (by simpa using hcat) hd ⟨Nat.zero_le _, Nat.zero_le _⟩) hS (fun _ _ z => z) (fun _ z => z) (fun r0 _ t H1 locs1 ht hvm hpost hB1 hz1 hk1 hS1 => ?_)
  obtain ⟨hP2, hK2, hD2, hB2, hM2, -, -⟩ := hB1
  rw [ht] at hP2
  obtain ⟨rfl, hz⟩ := hpost
  exact kk hz H1 locs1 ls ⟨hP2, hD2, hS1⟩ hM2 hl
theorem G_cSs (h : Cx X l0 E own cc ret nL rm) {k : Nat} (hM0 : Met l0 y (wsA y cc2 maxL2 ret2) rm2 (CP E M as) (CQs E k M') 0 0 (eA E)) (hy : nameOk y n) (hlink : Cond.methodLink own idx y ∈ lw_g) (hstat : Cond.static y ∈ lw_g) (hini : Cond.initialized y.cls ∈ lw_g) (hcode : Cond.code y cc2 maxL2 ret2 ∈ lw_g)
    (hd : decode cc pc = .ok (.invokestatic idx, 3)) (hstk : stk = as.reverse ++ st) {pc' : Nat} (hp : pc + 3 = pc') (hroom : roomOk rm2 rm maxL2) (hn : as.length = n) (hcat : (st.map fun v => v.category).sum ≤ 8) (kk : G X E (0, 0) pc' L (.ref (sK E k) :: st) M') : G X E (0, 0) pc L stk M := by
  subst hp
  obtain ⟨p, l, e, R, s, m, args, below, meth, c, Q, nl⟩ := X
  obtain ⟨hx, hb, hr, hml, hown, hts, hlk, hK, hB, rfl, rfl, rfl, hN, hZ⟩ := h
  intro H locs ls hW hM hl
  obtain ⟨hP, hD, hS⟩ := hW
  have hBH : eB E ≤ H.size := Nat.le_trans hB hS.1
  have hcw := callB_of (own := own) (index := idx) n hts (wsA_good hcode) rfl hroom.1 hroom.2.1 (hts _ hini) (hts _ hlink) hy hroom.2.2
  refine va_callr (va_runS ⟨hx, hb, hml, hown, hts⟩ hM0 ⟨hcw, hts _ hstat⟩ ⟨CP_blind, fun U hU hW => ⟨rfl, PreU_at hK hP hD hBH hM hN hS hZ hU hW⟩⟩ rfl hn hl.1 hstk (by simpa using hcat) hd ⟨Nat.zero_le _, Nat.zero_le _⟩) hS (fun _ _ z => z) (fun _ z => z) (fun _ ra t H1 locs1 ht hvm hpost hB1 hz1 hk1 hS1 => ?_)
  obtain ⟨rfl, hP2, hK2, hD2, hB2, hM2, -, -⟩ := hB1
  rw [ht] at hP2
  exact kk H1 locs1 ls ⟨hP2, hD2, hS1⟩ hM2 hl
end
def rm_coder : Room := { frames := 0, cells := 0, slots := 0, locals := 0 }
set_option maxRecDepth 100000 in
set_option maxHeartbeats 4000000 in
theorem ok_coder {E : Env1} (l0 : Launch) {M : Mem} {i : Nat} (hi : i < 6) : Met l0 yJ0_coder_7d493 (wsA yJ0_coder_7d493 cJ0_coder_7d493 1 (some .byte)) rm_coder (CP E M [.ref (sK E i)]) (CQi E 0 M) 0 0 (eA E) := by
  refine mtN .byte l0 rfl (by decide +kernel) (Nat.le_of_ble_eq_true rfl) (L0 := [some (.ref (sK E i))]) rfl (fun X h hR => ?_)
  refine G_scomp h (lwg (List.mem_of_getElem? (i := 410) (by decide +kernel)) rfl) dJ0_coder_7d493_0 rfl ?_
  refine G_if_eq h dJ0_coder_7d493_3 (tgt := 13) (by decide) rfl (fun c1 => absurd c1 (by decide)) (fun _ => ?_)
  refine G_aload_n h dJ0_coder_7d493_6 (i := 0) rfl rfl rfl ?_
  refine G_scod h hi (lwg (List.mem_of_getElem? (i := 1406) (by decide +kernel)) rfl) dJ0_coder_7d493_7 rfl ?_
  refine G_goto h dJ0_coder_7d493_10 (tgt := 14) (by decide) ?_
  exact hR _ _ dJ0_coder_7d493_14
def rm_isLatin1 : Room := { frames := 0, cells := 0, slots := 0, locals := 0 }
set_option maxRecDepth 100000 in
set_option maxHeartbeats 4000000 in
theorem ok_isLatin1 {E : Env1} (l0 : Launch) {M : Mem} {i : Nat} (hi : i < 6) : Met l0 yJ0_isLatin1_aae02 (wsA yJ0_isLatin1_aae02 cJ0_isLatin1_aae02 1 (some .boolean)) rm_isLatin1 (CP E M [.ref (sK E i)]) (CQi E 1 M) 0 0 (eA E) := by
  refine mtN .boolean l0 rfl (by decide +kernel) (Nat.le_of_ble_eq_true rfl) (L0 := [some (.ref (sK E i))]) rfl (fun X h hR => ?_)
  refine G_scomp h (lwg (List.mem_of_getElem? (i := 410) (by decide +kernel)) rfl) dJ0_isLatin1_aae02_0 rfl ?_
  refine G_if_eq h dJ0_isLatin1_aae02_3 (tgt := 17) (by decide) rfl (fun c1 => absurd c1 (by decide)) (fun _ => ?_)
  refine G_aload_n h dJ0_isLatin1_aae02_6 (i := 0) rfl rfl rfl ?_
  refine G_scod h hi (lwg (List.mem_of_getElem? (i := 1406) (by decide +kernel)) rfl) dJ0_isLatin1_aae02_7 rfl ?_
  refine G_if_ne h dJ0_isLatin1_aae02_10 (tgt := 17) (by decide) rfl (fun c1 => absurd rfl c1) (fun _ => ?_)
  refine G_iconst h dJ0_isLatin1_aae02_13 (v := 1) (by decide) rfl ?_
  refine G_goto h dJ0_isLatin1_aae02_14 (tgt := 18) (by decide) ?_
  exact hR _ _ dJ0_isLatin1_aae02_18
def rm_slength : Room := { frames := 1, cells := 0, slots := 0, locals := 20 }
theorem sh0 (x : Int32) : x >>> ((0 : Int32) &&& 31) = x := by
  apply Int32.toBitVec_inj.mp
  simp
set_option maxRecDepth 100000 in
set_option maxHeartbeats 4000000 in
theorem ok_slength {E : Env1} (l0 : Launch) {M : Mem} {i : Nat} (hi : i < 6) : Met l0 yJ0_length_8abf5 (wsA yJ0_length_8abf5 cJ0_length_8abf5 1 (some .int)) rm_slength (CP E M [.ref (sK E i)]) (CQi E (Int32.ofNat (slen i)) M) 0 0 (eA E) := by
  refine mtN .int l0 rfl (by decide +kernel) (Nat.le_of_ble_eq_true rfl) (L0 := [some (.ref (sK E i))]) rfl (fun X h hR => ?_)
  refine G_aload_n h dJ0_length_8abf5_0 (i := 0) rfl rfl rfl ?_
  refine G_sval h hi (lwg (List.mem_of_getElem? (i := 1405) (by decide +kernel)) rfl) dJ0_length_8abf5_1 rfl ?_
  refine G_blen h hi dJ0_length_8abf5_4 rfl ?_
  refine G_aload_n h dJ0_length_8abf5_5 (i := 0) rfl rfl rfl ?_
  refine G_cVSi h (n := 0) (ok_coder l0 hi) hi rfl ⟨by decide +kernel, by decide +kernel, by decide +kernel⟩ (lwg (List.mem_of_getElem? (i := 406) (by decide +kernel)) rfl) (lwg (List.mem_of_getElem? (i := 407) (by decide +kernel)) rfl) (lwg (List.mem_of_getElem? (i := 408) (by decide +kernel)) rfl) (lwg (List.mem_of_getElem? (i := 85) (by decide +kernel)) rfl) (lwg (List.mem_of_getElem? (i := 409) (by decide +kernel)) rfl) dJ0_length_8abf5_6 (as := []) rfl rfl ⟨rfl, rfl, Nat.le_of_ble_eq_true rfl, Nat.le_of_ble_eq_true rfl⟩ rfl (Nat.le_of_ble_eq_true rfl) ?_
  refine G_ishr h dJ0_length_8abf5_9 rfl ?_
  rw [sh0]
  exact hR _ _ dJ0_length_8abf5_10
def rm_chk3 : Room := { frames := 0, cells := 0, slots := 0, locals := 0 }
set_option maxRecDepth 100000 in
set_option maxHeartbeats 4000000 in
theorem ok_chk3 {E : Env1} (l0 : Launch) {M : Mem} {j n : Int32} {w : Option Nat} (h0 : ¬ j < 0) (h1 : j < n) : Met l0 yJ3_checkIndex_8e157 (wsA yJ3_checkIndex_8e157 cJ3_checkIndex_8e157 3 (some .int)) rm_chk3 (CP E M [.int j, .int n, va_rf w]) (CQi E j M) 0 0 (eA E) := by
  refine mtN .int l0 rfl (by decide +kernel) (by cases w <;> exact Nat.le_of_ble_eq_true rfl) (L0 := [some (.int j), some (.int n), some (va_rf w)]) (by cases w <;> rfl) (fun X h hR => ?_)
  refine G_iload_n h dJ3_checkIndex_8e157_0 (i := 0) rfl rfl rfl ?_
  refine G_if_lt h dJ3_checkIndex_8e157_1 (tgt := 9) (by decide) rfl (fun c1 => absurd c1 h0) (fun _ => ?_)
  refine G_iload_n h dJ3_checkIndex_8e157_4 (i := 0) rfl rfl rfl ?_
  refine G_iload_n h dJ3_checkIndex_8e157_5 (i := 1) rfl rfl rfl ?_
  refine G_icmp_lt h dJ3_checkIndex_8e157_6 (tgt := 16) (by decide) rfl (fun _ => ?_) (fun c1 => absurd h1 c1)
  refine G_iload_n h dJ3_checkIndex_8e157_16 (i := 0) rfl rfl rfl ?_
  exact hR _ _ dJ3_checkIndex_8e157_17
def rm_chk0 : Room := { frames := 1, cells := 0, slots := 0, locals := 22 }
set_option maxRecDepth 100000 in
set_option maxHeartbeats 4000000 in
theorem ok_chk0 {E : Env1} (l0 : Launch) {M : Mem} {j n : Int32} (h0 : ¬ j < 0) (h1 : j < n) : Met l0 yJ0_checkIndex_df160 (wsA yJ0_checkIndex_df160 cJ0_checkIndex_df160 2 none) rm_chk0 (CP E M [.int j, .int n]) (CQv E M) 0 0 (eA E) := by
  refine mtV l0 (by decide +kernel) (Nat.le_of_ble_eq_true rfl) (L0 := [some (.int j), some (.int n)]) rfl (fun X h hR => ?_)
  refine G_iload_n h dJ0_checkIndex_df160_0 (i := 0) rfl rfl rfl ?_
  refine G_iload_n h dJ0_checkIndex_df160_1 (i := 1) rfl rfl rfl ?_
  refine G_sio h (lwg (List.mem_of_getElem? (i := 426) (by decide +kernel)) rfl) dJ0_checkIndex_df160_2 rfl (fun w => ?_)
  refine G_cSi h (n := 3) (ok_chk3 l0 (w := w) h0 h1) ⟨by decide +kernel, by decide +kernel, by decide +kernel⟩ (lwg (List.mem_of_getElem? (i := 428) (by decide +kernel)) rfl) (lwg (List.mem_of_getElem? (i := 429) (by decide +kernel)) rfl) (lwg (List.mem_of_getElem? (i := 87) (by decide +kernel)) rfl) (lwg (List.mem_of_getElem? (i := 430) (by decide +kernel)) rfl) dJ0_checkIndex_df160_5 (as := [.int j, .int n, va_rf w]) rfl rfl ⟨rfl, rfl, Nat.le_of_ble_eq_true rfl, Nat.le_of_ble_eq_true rfl⟩ rfl (Nat.le_of_ble_eq_true rfl) ?_
  refine G_pop h dJ0_checkIndex_df160_8 rfl rfl ?_
  exact hR _ _ dJ0_checkIndex_df160_9
def rm_lchar : Room := { frames := 2, cells := 0, slots := 0, locals := 43 }
set_option maxRecDepth 100000 in
set_option maxHeartbeats 4000000 in
theorem sch_nar (i k : Nat) : narrow .char (.int (sch i k)) = .int (sch i k) := pk_nc _
set_option maxRecDepth 100000 in
set_option maxHeartbeats 4000000 in
theorem ok_lchar {E : Env1} (l0 : Launch) {M : Mem} {i : Nat} {j : Int32} (hi : i < 6) (hj : vp_in j (slen i)) : Met l0 yJ1_charAt_3b067 (wsA yJ1_charAt_3b067 cJ1_charAt_3b067 2 (some .char)) rm_lchar (CP E M [.ref (sV E i), .int j]) (CQi E (sch i (ix j)) M) 0 0 (eA E) := by
  have hs : slen i < 2 ^ 31 := by
    have : ∀ i, i < 6 → slen i < 2 ^ 31 := by decide
    exact this i hi
  obtain ⟨k, hk, rfl⟩ := vp_in_of hj hs
  refine mtN .char l0 (sch_nar _ _) (by decide +kernel) (Nat.le_of_ble_eq_true rfl) (L0 := [some (.ref (sV E i)), some (.int (nI k))]) rfl (fun X h hR => ?_)
  refine G_iload_n h dJ1_charAt_3b067_0 (i := 1) rfl rfl rfl ?_
  refine G_aload_n h dJ1_charAt_3b067_1 (i := 0) rfl rfl rfl ?_
  refine G_blen h hi dJ1_charAt_3b067_2 rfl ?_
  refine G_cSv h (n := 2) (ok_chk0 l0 (nI_pos (by omega)) (nI_lt hk hs)) ⟨by decide +kernel, by decide +kernel, by decide +kernel⟩ (lwg (List.mem_of_getElem? (i := 423) (by decide +kernel)) rfl) (lwg (List.mem_of_getElem? (i := 424) (by decide +kernel)) rfl) (lwg (List.mem_of_getElem? (i := 85) (by decide +kernel)) rfl) (lwg (List.mem_of_getElem? (i := 425) (by decide +kernel)) rfl) dJ1_charAt_3b067_3 (as := [.int (nI k), .int (Int32.ofNat (slen i))]) rfl rfl ⟨rfl, rfl, Nat.le_of_ble_eq_true rfl, Nat.le_of_ble_eq_true rfl⟩ rfl (Nat.le_of_ble_eq_true rfl) ?_
  refine G_aload_n h dJ1_charAt_3b067_6 (i := 0) rfl rfl rfl ?_
  refine G_iload_n h dJ1_charAt_3b067_7 (i := 1) rfl rfl rfl ?_
  refine G_bld h hi hj dJ1_charAt_3b067_8 rfl ?_
  refine G_sipush h dJ1_charAt_3b067_9 (v := 255) (by decide) rfl ?_
  refine G_iand h dJ1_charAt_3b067_12 rfl ?_
  refine G_i2c h dJ1_charAt_3b067_13 rfl ?_
  exact hR _ _ dJ1_charAt_3b067_14
def rm_schar : Room := { frames := 3, cells := 0, slots := 0, locals := 64 }
set_option maxRecDepth 100000 in
set_option maxHeartbeats 4000000 in
theorem ok_schar {E : Env1} (l0 : Launch) {M : Mem} {i : Nat} {j : Int32} (hi : i < 6) (hj : vp_in j (slen i)) : Met l0 yJ0_charAt_5068e (wsA yJ0_charAt_5068e cJ0_charAt_5068e 2 (some .char)) rm_schar (CP E M [.ref (sK E i), .int j]) (CQi E (sch i (ix j)) M) 0 0 (eA E) := by
  refine mtN .char l0 (sch_nar _ _) (by decide +kernel) (Nat.le_of_ble_eq_true rfl) (L0 := [some (.ref (sK E i)), some (.int j)]) rfl (fun X h hR => ?_)
  refine G_aload_n h dJ0_charAt_5068e_0 (i := 0) rfl rfl rfl ?_
  refine G_cVSi h (n := 0) (ok_isLatin1 l0 hi) hi rfl ⟨by decide +kernel, by decide +kernel, by decide +kernel⟩ (lwg (List.mem_of_getElem? (i := 416) (by decide +kernel)) rfl) (lwg (List.mem_of_getElem? (i := 417) (by decide +kernel)) rfl) (lwg (List.mem_of_getElem? (i := 418) (by decide +kernel)) rfl) (lwg (List.mem_of_getElem? (i := 85) (by decide +kernel)) rfl) (lwg (List.mem_of_getElem? (i := 419) (by decide +kernel)) rfl) dJ0_charAt_5068e_1 (as := []) rfl rfl ⟨rfl, rfl, Nat.le_of_ble_eq_true rfl, Nat.le_of_ble_eq_true rfl⟩ rfl (Nat.le_of_ble_eq_true rfl) ?_
  refine G_if_eq h dJ0_charAt_5068e_4 (tgt := 16) (by decide) rfl (fun c1 => absurd c1 (by decide)) (fun _ => ?_)
  refine G_aload_n h dJ0_charAt_5068e_7 (i := 0) rfl rfl rfl ?_
  refine G_sval h hi (lwg (List.mem_of_getElem? (i := 1405) (by decide +kernel)) rfl) dJ0_charAt_5068e_8 rfl ?_
  refine G_iload_n h dJ0_charAt_5068e_11 (i := 1) rfl rfl rfl ?_
  refine G_cSi h (n := 2) (ok_lchar l0 hi hj) ⟨by decide +kernel, by decide +kernel, by decide +kernel⟩ (lwg (List.mem_of_getElem? (i := 420) (by decide +kernel)) rfl) (lwg (List.mem_of_getElem? (i := 421) (by decide +kernel)) rfl) (lwg (List.mem_of_getElem? (i := 86) (by decide +kernel)) rfl) (lwg (List.mem_of_getElem? (i := 422) (by decide +kernel)) rfl) dJ0_charAt_5068e_12 (as := [.ref (sV E i), .int j]) rfl rfl ⟨rfl, rfl, Nat.le_of_ble_eq_true rfl, Nat.le_of_ble_eq_true rfl⟩ rfl (Nat.le_of_ble_eq_true rfl) ?_
  exact hR _ _ dJ0_charAt_5068e_15
def snm (v : Int32) : Nat := if v = 0 then 0 else if v = 1 then 1 else if v = 2 then 2 else if v = 3 then 3 else if v = 4 then 4 else 5
theorem snm_lt (v : Int32) : snm v < 6 := by
  unfold snm
  repeat' split
  all_goals omega
section
variable {X : Ctx} {l0 : Launch} {E : Env1} {cc : ByteArray} {ret : Option FieldType} {nL pc i : Nat} {rm : Room} {L : List (Option Value)} {stk st : List Value} {M : Mem}
theorem cl_X7_134 (h : Cx X l0 E RX7 cc ret nL rm) (hi : i < 6) (hd : decode cc pc = .ok (.invokevirtual 134, 3)) {pc' : Nat} (hp : pc + 3 = pc') (hroom : roomOk rm_slength rm 1) (hcat : (st.map fun v => v.category).sum ≤ 8) (kk : G X E (0, 0) pc' L (.int (Int32.ofNat (slen i)) :: st) M) : G X E (0, 0) pc L (.ref (sK E i) :: st) M := G_cVSi h (n := 0) (ok_slength l0 hi) hi rfl ⟨by decide +kernel, by decide +kernel, by decide +kernel⟩ (lwg (List.mem_of_getElem? (i := 402) (by decide +kernel)) rfl) (lwg (List.mem_of_getElem? (i := 403) (by decide +kernel)) rfl) (lwg (List.mem_of_getElem? (i := 404) (by decide +kernel)) rfl) (lwg (List.mem_of_getElem? (i := 85) (by decide +kernel)) rfl) (lwg (List.mem_of_getElem? (i := 405) (by decide +kernel)) rfl) hd (as := []) rfl hp hroom rfl hcat kk
theorem cl_X7_139 (h : Cx X l0 E RX7 cc ret nL rm) (hi : i < 6) {j : Int32} (hj : vp_in j (slen i)) (hd : decode cc pc = .ok (.invokevirtual 139, 3)) {pc' : Nat} (hp : pc + 3 = pc') (hroom : roomOk rm_schar rm 2) (hcat : (st.map fun v => v.category).sum ≤ 8) (kk : G X E (0, 0) pc' L (.int (sch i (ix j)) :: st) M) : G X E (0, 0) pc L (.int j :: .ref (sK E i) :: st) M := G_cVSi h (n := 1) (ok_schar l0 hi hj) hi rfl ⟨by decide +kernel, by decide +kernel, by decide +kernel⟩ (lwg (List.mem_of_getElem? (i := 412) (by decide +kernel)) rfl) (lwg (List.mem_of_getElem? (i := 413) (by decide +kernel)) rfl) (lwg (List.mem_of_getElem? (i := 414) (by decide +kernel)) rfl) (lwg (List.mem_of_getElem? (i := 85) (by decide +kernel)) rfl) (lwg (List.mem_of_getElem? (i := 415) (by decide +kernel)) rfl) hd (as := [.int j]) rfl hp hroom rfl hcat kk
end
def rm_nameOf : Room := { frames := 0, cells := 0, slots := 0, locals := 0 }
set_option maxRecDepth 100000 in
set_option maxHeartbeats 4000000 in
theorem ok_nameOf {E : Env1} (l0 : Launch) {M : Mem} {v : Int32} : Met l0 yX7_nameOf (wsA yX7_nameOf cX7_nameOf 1 (some (.object "java/lang/String"))) rm_nameOf (CP E M [.int v]) (CQs E (snm v) M) 0 0 (eA E) := by
  refine mtS "java/lang/String" l0 (by decide +kernel) (Nat.le_of_ble_eq_true rfl) (L0 := [some (.int v)]) rfl (fun X h hR => ?_)
  refine G_iload_n h dX7_nameOf_0 (i := 0) rfl rfl rfl ?_
  by_cases c0 : v = 0
  · subst c0
    refine G_tsIn h dX7_nameOf_1 rfl (v := 0) (j := 0) (by decide) (by decide) rfl (tgt := 36) (by decide) ?_
    refine G_ldcS h (i := 0) (by decide) rfl rfl dX7_nameOf_36 rfl ?_
    exact hR _ _ dX7_nameOf_38
  by_cases c1 : v = 1
  · subst c1
    refine G_tsIn h dX7_nameOf_1 rfl (v := 1) (j := 1) (by decide) (by decide) rfl (tgt := 39) (by decide) ?_
    refine G_ldcS h (i := 1) (by decide) rfl rfl dX7_nameOf_39 rfl ?_
    exact hR _ _ dX7_nameOf_41
  by_cases c2 : v = 2
  · subst c2
    refine G_tsIn h dX7_nameOf_1 rfl (v := 2) (j := 2) (by decide) (by decide) rfl (tgt := 42) (by decide) ?_
    refine G_ldcS h (i := 2) (by decide) rfl rfl dX7_nameOf_42 rfl ?_
    exact hR _ _ dX7_nameOf_44
  by_cases c3 : v = 3
  · subst c3
    refine G_tsIn h dX7_nameOf_1 rfl (v := 3) (j := 3) (by decide) (by decide) rfl (tgt := 45) (by decide) ?_
    refine G_ldcS h (i := 3) (by decide) rfl rfl dX7_nameOf_45 rfl ?_
    exact hR _ _ dX7_nameOf_47
  by_cases c4 : v = 4
  · subst c4
    refine G_tsIn h dX7_nameOf_1 rfl (v := 4) (j := 4) (by decide) (by decide) rfl (tgt := 48) (by decide) ?_
    refine G_ldcS h (i := 4) (by decide) rfl rfl dX7_nameOf_48 rfl ?_
    exact hR _ _ dX7_nameOf_50
  have n0 := ne_lit c0 (n := 0) (by decide)
  have n1 := ne_lit c1 (n := 1) (by decide)
  have n2 := ne_lit c2 (n := 2) (by decide)
  have n3 := ne_lit c3 (n := 3) (by decide)
  have n4 := ne_lit c4 (n := 4) (by decide)
  refine G_tsOut h dX7_nameOf_1 (by omega) (tgt := 51) (by decide) ?_
  refine G_ldcS h (i := 5) (by decide) rfl rfl dX7_nameOf_51 rfl ?_
  have e5 : snm v = 5 := by
    unfold snm
    rw [if_neg c0, if_neg c1, if_neg c2, if_neg c3, if_neg c4]
  rw [e5] at hR
  exact hR _ _ dX7_nameOf_53
theorem cl_X7_126 {X : Ctx} {l0 : Launch} {E : Env1} {cc : ByteArray} {ret : Option FieldType} {nL pc : Nat} {rm : Room} {L : List (Option Value)} {st : List Value} {M : Mem} (h : Cx X l0 E RX7 cc ret nL rm) {v : Int32} (hd : decode cc pc = .ok (.invokestatic 126, 3)) {pc' : Nat} (hp : pc + 3 = pc') (hroom : roomOk rm_nameOf rm 1) (hcat : (st.map fun v => v.category).sum ≤ 8) (kk : G X E (0, 0) pc' L (.ref (sK E (snm v)) :: st) M) : G X E (0, 0) pc L (.int v :: st) M := G_cSs h (n := 1) (ok_nameOf l0) ⟨by decide +kernel, by decide +kernel, by decide +kernel⟩ (lwg (List.mem_of_getElem? (i := 389) (by decide +kernel)) rfl) (lwg (List.mem_of_getElem? (i := 390) (by decide +kernel)) rfl) (lwg (List.mem_of_getElem? (i := 82) (by decide +kernel)) rfl) (lwg (List.mem_of_getElem? (i := 391) (by decide +kernel)) rfl) hd (as := [.int v]) rfl hp hroom rfl hcat kk
end Strs
