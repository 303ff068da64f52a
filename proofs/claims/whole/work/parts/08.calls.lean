/-! references in arrays, calls, ends, and a method's contract out of its walk over G -/
section CallsG
def jmax (x y : Int32) : Int32 := if x < y then y else x
def jmin (x y : Int32) : Int32 := if y < x then y else x
section RowsA
variable {X : Ctx} {l0 : Launch} {E : Env1} {cs : Nat × Nat} {own : String} {cc : ByteArray} {ret : Option FieldType} {nL pc : Nat} {rm : Room} {L L' : List (Option Value)} {st : List Value} {M : Mem}
theorem G_aldH (h : Cx X l0 E own cc ret nL rm) {a : Nat} {i : Int32} (hE : WF E) (hd : decode cc pc = .ok (.aaload, 1)) (ha : isA E a 12 2) (hi : vp_in i 2) {jx : Nat} (hj : i.toNatClampNeg = jx) {pc' : Nat} (hp : pc + 1 = pc') (kk : isK E (rr E a jx) 0 → G X E cs pc' L (.ref (rr E a jx) :: st) M) : G X E cs pc L (.int i :: .ref a :: st) M := by
  subst hp
  subst hj
  obtain ⟨p, l, e, R, s, m, args, below, meth, c, Q, nl⟩ := X
  obtain ⟨hx, hb, hr, hml, hown, hts, hlk, hK, hB, rfl, rfl, rfl, hN, hZ⟩ := h
  intro H locs ls hW hM hl
  obtain ⟨hP, hD, hS⟩ := hW
  obtain ⟨j, hn⟩ := va_pl_get (X := []) (f := cel E M) ha.1
  rw [pl0, cel_12 ha.2.1] at hn
  have hf : fK E a i.toNatClampNeg 0 := hE.2.2.2.2.2.2.2.1 a ha _ (Nat.not_le.mp fun q => hi (Or.inr q))
  have k1 := kk hf.2 H locs ls ⟨hP, hD, hS⟩ hM hl
  refine va_aldq hx hb hK hP j 3 hn rfl (by rw [ha.2.2]; exact hi) hd ?_
  rw [hf.1]
  exact k1
theorem G_aldS (h : Cx X l0 E own cc ret nL rm) {a : Nat} {i : Int32} (hE : WF E) (hd : decode cc pc = .ok (.aaload, 1)) (ha : isA E a 13 8) (hi : vp_in i 8) {jx : Nat} (hj : i.toNatClampNeg = jx) {pc' : Nat} (hp : pc + 1 = pc') (kk : isK E (mr M a jx) 4 → G X E cs pc' L (.ref (mr M a jx) :: st) M) : G X E cs pc L (.int i :: .ref a :: st) M := by
  subst hp
  subst hj
  obtain ⟨p, l, e, R, s, m, args, below, meth, c, Q, nl⟩ := X
  obtain ⟨hx, hb, hr, hml, hown, hts, hlk, hK, hB, rfl, rfl, rfl, hN, hZ⟩ := h
  intro H locs ls hW hM hl
  obtain ⟨hP, hD, hS⟩ := hW
  obtain ⟨j, hn⟩ := va_pl_get (X := []) (f := cel E M) ha.1
  rw [pl0, cel_13 ha.2.1] at hn
  have hlt : i.toNatClampNeg < 8 := Nat.not_le.mp fun q => hi (Or.inr q)
  obtain ⟨b, hb0⟩ := hE.2.2.2.2.2.2.2.2 a ha _ hlt
  have k1 := kk (hM a ha _ hlt) H locs ls ⟨hP, hD, hS⟩ hM hl
  refine va_aldq hx hb hK hP j 4 hn rfl (by rw [ha.2.2]; exact hi) hd ?_
  rw [hb0]
  exact k1
theorem WM_wi {E : Env1} {M : Mem} {a k : Nat} {v : Int32} (h : WM E M) : WM E (wi M a k v) := h
theorem WM_wl {E : Env1} {M : Mem} {a k : Nat} {v : Int64} (h : WM E M) : WM E (wl M a k v) := h
theorem WM_wr {E : Env1} {M : Mem} {a k v : Nat} (h : WM E M) (hv : isK E v 4) : WM E (wr M a k v) := by
  intro q hq j hj
  rw [mr_wr]
  by_cases c : q = a ∧ j = k
  · rw [if_pos c]
    exact hv
  · rw [if_neg c]
    exact h q hq j hj
theorem cel_pl13 {E : Env1} {M : Mem} {a j v : Nat} (h : eK E a = 13) (hr : ∃ b, eR E a j = some b) : va_pl (eL E) (va_up (cel E M) a (.inl (eC E 13, eN E a, .inr (.inr (.inr (.inr (va_up (fun j => (eR E a j).map (fun _ => mr M a j)) j (some v)))))))) = va_pl (eL E) (cel E (wr M a j v)) := by
  apply va_pl_congr
  intro b
  by_cases hb : b = a
  · subst hb
    rw [va_up_self, cel_13 h]
    refine congrArg (fun z => (Sum.inl (eC E 13, eN E b, Sum.inr (Sum.inr (Sum.inr (Sum.inr z)))) : va_E)) (funext fun i => ?_)
    by_cases hi : i = j
    · subst hi
      obtain ⟨x, hx⟩ := hr
      rw [va_up_self, mr_wr, if_pos ⟨rfl, rfl⟩, hx]
      rfl
    · rw [va_up_ne _ _ hi, mr_wr, if_neg (fun q => hi q.2)]
  · rw [va_up_ne _ _ hb, cel_wr_ne hb]
theorem G_astS (h : Cx X l0 E own cc ret nL rm) {a v : Nat} {i : Int32} (hE : WF E) (hd : decode cc pc = .ok (.aastore, 1)) (ha : isA E a 13 8) (hv : isK E v 4) (hi : vp_in i 8) {jx : Nat} (hj : i.toNatClampNeg = jx) {pc' : Nat} (hp : pc + 1 = pc') (kk : G X E cs pc' L st (wr M a jx v)) : G X E cs pc L (.ref v :: .int i :: .ref a :: st) M := by
  subst hp
  subst hj
  obtain ⟨p, l, e, R, s, m, args, below, meth, c, Q, nl⟩ := X
  obtain ⟨hx, hb, hr, hml, hown, hts, hlk, hK, hB, rfl, rfl, rfl, hN, hZ⟩ := h
  intro H locs ls hW hM hl
  obtain ⟨hP, hD, hS⟩ := hW
  obtain ⟨j, hn⟩ := va_pl_get (X := []) (f := cel E M) ha.1
  obtain ⟨j2, hn3⟩ := va_pl_get (X := []) (f := cel E M) hv.1
  have hn2 := hn
  rw [pl0, cel_13 ha.2.1] at hn2
  rw [pl0, cel_obj hv.2 (by omega)] at hn3
  have hlt : i.toNatClampNeg < 8 := Nat.not_le.mp fun q => hi (Or.inr q)
  refine va_astq hx hb hK hP hD hS j 4 j2 4 (r := (RX5, TX5, 5)) hn2 rfl hn3 rfl (by rw [ha.2.2]; exact hi) hd (fun H1 locs1 hP1 hD1 hS1 => ?_)
  have e1 := fun e => va_pl_set (X := []) (e := e) hD ha.1 hn
  simp only [pl0] at e1
  rw [e1, cel_pl13 ha.2.1 (hE.2.2.2.2.2.2.2.2 a ha _ hlt)] at hP1 hD1
  exact kk H1 locs1 ls ⟨hP1, hD1, hS1⟩ (WM_wr hM hv) hl
end RowsA

/-! contracts -/
def wsA (y : MethodName) (cc : ByteArray) (maxL : Nat) (ret : Option FieldType) : List Cond := Cond.code y cc maxL ret :: lw_g
theorem wsA_good {y : MethodName} {cc : ByteArray} {maxL : Nat} {ret : Option FieldType} (h : Cond.code y cc maxL ret ∈ lw_g) : GoodIn lw_g (wsA y cc maxL ret) := by
  intro w hw
  have h1 : w ∈ lw_g := by
    rcases List.mem_cons.mp hw with rfl | h2
    · exact h
    · exact h2
  exact ⟨h1, good_of_word (List.mem_filter.mp h1).2⟩
def CP (E : Env1) (M : Mem) (as : List Value) : Array Value → State → Prop := va_Pc as (PreU E M)
def CQi (E : Env1) (r : Int32) (M' : Mem) : Array Value → State → Outcome → State → Prop := va_Qi (fun (x : Int32) (_ : Unit) => x = r) (fun _ t => PreU E M' t) (eA E)
def CQz (E : Env1) (r : Int32) (M' : Mem) : Array Value → State → Outcome → State → Prop := va_Qi (fun (x : Int32) (_ : Unit) => x = r ∧ (r = 0 ∨ r = 1)) (fun _ t => PreU E M' t) (eA E)
def CQl (E : Env1) (r : Int64) (M' : Mem) : Array Value → State → Outcome → State → Prop := va_Ql (fun (x : Int64) (_ : Unit) => x = r) (fun _ t => PreU E M' t) (eA E)
def CQv (E : Env1) (M' : Mem) : Array Value → State → Outcome → State → Prop := va_Qv (fun (_ : Unit) => True) (fun _ t => PreU E M' t) (eA E)
theorem PreU_calling {E : Env1} {M : Mem} {U : State} {g : JFrame} {mk : MethodId} {a : Array Value} (h : PreU E M U) : PreU E M (U.calling g mk a) := by
  obtain ⟨h1, h2, h3, h4, h5, h6, h7⟩ := h
  exact ⟨h1, va_K.moved (u := U) (U := U.calling g mk a) (Vm.Alike.refl U.vm) h2, h3, h4, h5, ⟨fun q hq => va_Nw.same rfl (u := U) (U := U.calling g mk a) rfl (h6.1 q hq), fun q hq => va_Nw.same rfl (u := U) (U := U.calling g mk a) rfl (h6.2.1 q hq), fun q hq => va_Nw.same rfl (u := U) (U := U.calling g mk a) rfl (h6.2.2.1 q hq), fun C hC => va_AO.moved (u := U) (U := U.calling g mk a) (Vm.Alike.refl U.vm) (h6.2.2.2 C hC)⟩, SW_calling h7⟩
theorem CP_blind {E : Env1} {M : Mem} {as : List Value} : FrameBlind (CP E M as) := fun _ _ _ _ q => ⟨q.1, PreU_calling q.2⟩
/-- how a method ends -/
def RetI (X : Ctx) (E : Env1) (cc : ByteArray) (r : Int32) (M' : Mem) : Prop := ∀ pc L, decode cc pc = .ok (.ireturn, 1) → G X E (0, 0) pc L [.int r] M'
def RetZ (X : Ctx) (E : Env1) (cc : ByteArray) (r : Int32) (M' : Mem) : Prop := ∀ pc L, decode cc pc = .ok (.ireturn, 1) → (r = 0 ∨ r = 1) → G X E (0, 0) pc L [.int r] M'
def RetL (X : Ctx) (E : Env1) (cc : ByteArray) (r : Int64) (M' : Mem) : Prop := ∀ pc L, decode cc pc = .ok (.lreturn, 1) → G X E (0, 0) pc L [.long r] M'
def RetV (X : Ctx) (E : Env1) (cc : ByteArray) (M' : Mem) : Prop := ∀ pc L, decode cc pc = .ok (.return_, 1) → G X E (0, 0) pc L [] M'
def a0 : List Value → List (Option Value)
  | [] => []
  | v :: vs => if v.category = 2 then some v :: none :: a0 vs else some v :: a0 vs
theorem a0_mem : ∀ (vs : List Value) (k i : Nat) (v : Value), (a0 vs)[i]? = some (some v) → (k + i, v) ∈ lv_args k vs
  | [], _, _, _, h => by simp [a0] at h
  | w :: vs, k, i, v, h => by
    unfold a0 at h
    unfold lv_args
    by_cases c : w.category = 2
    · rw [if_pos c] at h ⊢
      match i, h with
      | 0, h => simp at h; subst h; exact List.mem_cons_self
      | 1, h => simp at h
      | i + 2, h =>
        have := a0_mem vs (k + 2) i v (by simpa using h)
        rw [show k + (i + 2) = k + 2 + i by omega]
        exact List.mem_cons_of_mem _ this
    · rw [if_neg c] at h ⊢
      match i, h with
      | 0, h => simp at h; subst h; exact List.mem_cons_self
      | i + 1, h =>
        have := a0_mem vs (k + 1) i v (by simpa using h)
        rw [show k + (i + 1) = k + 1 + i by omega]
        exact List.mem_cons_of_mem _ this
def pad (n : Nat) (L : List (Option Value)) : List (Option Value) := L ++ List.replicate (n - L.length) none
theorem pad_mem {n i : Nat} {L : List (Option Value)} {v : Value} (h : (pad n L)[i]? = some (some v)) : L[i]? = some (some v) := by
  unfold pad at h
  by_cases c : i < L.length
  · rwa [List.getElem?_append_left c] at h
  · rw [List.getElem?_append_right (by omega), List.getElem?_replicate] at h
    split at h <;> simp at h
theorem lvO_entry (as : List Value) {n : Nat} {L0 : List (Option Value)} (h : (lg_sl as).length ≤ n) (h0 : pad n (a0 as) = L0) : lvO ((lg_sl as ++ List.replicate (n - (lg_sl as).length) Slot.unset).toArray) n L0 := by
  subst h0
  obtain ⟨h1, h2, h3⟩ := lv_entry as h
  refine ⟨h1, h2, fun i v hv => ?_⟩
  have := a0_mem as 0 i v (pad_mem hv)
  rw [Nat.zero_add] at this
  exact h3 _ this

theorem mtI {y : MethodName} {cc : ByteArray} {maxL : Nat} {as : List Value} {rm : Room} {E : Env1} {M M' : Mem} {r : Int32} {L0 : List (Option Value)} (l0 : Launch) (hy : plainName y.cls = true) (hlen : (lg_sl as).length ≤ maxL) (hL0 : pad maxL (a0 as) = L0)
    (body : ∀ X : Ctx, Cx X l0 E y.cls cc (some .int) maxL rm → RetI X E cc r M' → G X E (0, 0) 0 L0 [] M) : Met l0 y (wsA y cc maxL (some .int)) rm (CP E M as) (CQi E r M') 0 0 (eA E) := by
  refine Met.ofW (cc := cc) (maxL := maxL) (ret := (some .int)) hy rfl ?_
  intro p e s m args below meth c s₁ B hml hv
  obtain ⟨rfl, hP, hK, hD, hB, hM, hN, hZ⟩ := hv
  have hts := atoms_spec (ws := wsA y cc maxL (some .int)) B.pre
  have hown : s.vm.findClass y.cls = some m.cls := findClass_of_methodNamed B.named
  have hh := B.exec
  have hb := B.bytes
  have hr := B.returns
  have hlk := B.notSynchronized
  rw [lg_entry_eq]
  have hX : Cx (p, l0, e, rm, s, m, as.toArray, below, meth, c, MQ below (CQi E r M') as.toArray s 0 0 (eA E), maxL) l0 E y.cls cc (some .int) maxL rm := ⟨hh, hb, hr, hml, hown, fun w hw => hts w (List.mem_cons_of_mem _ hw), hlk, hK, hB, rfl, rfl, rfl, hN, hZ⟩
  refine body _ hX ?_ s.heap [] _ ⟨hP, hD, va_S.rf⟩ hM (lvO_entry as hlen hL0)
  intro pc L hd
  intro H locs ls hW hM2 hl
  obtain ⟨hP2, hD2, hS2⟩ := hW
  exact W.iret hh hb hr (fun t ht hW2 => ⟨⟨r, (), rfl, rfl, by rw [ht]; exact hP2, va_K.moved hW2.alike hK, hD2, by rw [ht]; exact Nat.le_trans hB hS2.1, hM2, NW_warm hW2 hN, by rw [ht]; exact SW_go hZ hW2 hS2⟩, hS2.F ht⟩) hS2.2.2 hd hlk
theorem mtZ {y : MethodName} {cc : ByteArray} {maxL : Nat} {as : List Value} {rm : Room} {E : Env1} {M M' : Mem} {r : Int32} {L0 : List (Option Value)} (l0 : Launch) (hy : plainName y.cls = true) (hlen : (lg_sl as).length ≤ maxL) (hL0 : pad maxL (a0 as) = L0)
    (body : ∀ X : Ctx, Cx X l0 E y.cls cc (some .boolean) maxL rm → RetZ X E cc r M' → G X E (0, 0) 0 L0 [] M) : Met l0 y (wsA y cc maxL (some .boolean)) rm (CP E M as) (CQz E r M') 0 0 (eA E) := by
  refine Met.ofW (cc := cc) (maxL := maxL) (ret := (some .boolean)) hy rfl ?_
  intro p e s m args below meth c s₁ B hml hv
  obtain ⟨rfl, hP, hK, hD, hB, hM, hN, hZ⟩ := hv
  have hts := atoms_spec (ws := wsA y cc maxL (some .boolean)) B.pre
  have hown : s.vm.findClass y.cls = some m.cls := findClass_of_methodNamed B.named
  have hh := B.exec
  have hb := B.bytes
  have hr := B.returns
  have hlk := B.notSynchronized
  rw [lg_entry_eq]
  have hX : Cx (p, l0, e, rm, s, m, as.toArray, below, meth, c, MQ below (CQz E r M') as.toArray s 0 0 (eA E), maxL) l0 E y.cls cc (some .boolean) maxL rm := ⟨hh, hb, hr, hml, hown, fun w hw => hts w (List.mem_cons_of_mem _ hw), hlk, hK, hB, rfl, rfl, rfl, hN, hZ⟩
  refine body _ hX ?_ s.heap [] _ ⟨hP, hD, va_S.rf⟩ hM (lvO_entry as hlen hL0)
  intro pc L hd hz
  intro H locs ls hW hM2 hl
  obtain ⟨hP2, hD2, hS2⟩ := hW
  exact W.zret hh hb hr (by rcases hz with rfl | rfl <;> rfl) (fun t ht hW2 => ⟨⟨r, (), rfl, ⟨rfl, hz⟩, by rw [ht]; exact hP2, va_K.moved hW2.alike hK, hD2, by rw [ht]; exact Nat.le_trans hB hS2.1, hM2, NW_warm hW2 hN, by rw [ht]; exact SW_go hZ hW2 hS2⟩, hS2.F ht⟩) hS2.2.2 hd hlk
theorem mtL {y : MethodName} {cc : ByteArray} {maxL : Nat} {as : List Value} {rm : Room} {E : Env1} {M M' : Mem} {r : Int64} {L0 : List (Option Value)} (l0 : Launch) (hy : plainName y.cls = true) (hlen : (lg_sl as).length ≤ maxL) (hL0 : pad maxL (a0 as) = L0)
    (body : ∀ X : Ctx, Cx X l0 E y.cls cc (some .long) maxL rm → RetL X E cc r M' → G X E (0, 0) 0 L0 [] M) : Met l0 y (wsA y cc maxL (some .long)) rm (CP E M as) (CQl E r M') 0 0 (eA E) := by
  refine Met.ofW (cc := cc) (maxL := maxL) (ret := (some .long)) hy rfl ?_
  intro p e s m args below meth c s₁ B hml hv
  obtain ⟨rfl, hP, hK, hD, hB, hM, hN, hZ⟩ := hv
  have hts := atoms_spec (ws := wsA y cc maxL (some .long)) B.pre
  have hown : s.vm.findClass y.cls = some m.cls := findClass_of_methodNamed B.named
  have hh := B.exec
  have hb := B.bytes
  have hr := B.returns
  have hlk := B.notSynchronized
  rw [lg_entry_eq]
  have hX : Cx (p, l0, e, rm, s, m, as.toArray, below, meth, c, MQ below (CQl E r M') as.toArray s 0 0 (eA E), maxL) l0 E y.cls cc (some .long) maxL rm := ⟨hh, hb, hr, hml, hown, fun w hw => hts w (List.mem_cons_of_mem _ hw), hlk, hK, hB, rfl, rfl, rfl, hN, hZ⟩
  refine body _ hX ?_ s.heap [] _ ⟨hP, hD, va_S.rf⟩ hM (lvO_entry as hlen hL0)
  intro pc L hd
  intro H locs ls hW hM2 hl
  obtain ⟨hP2, hD2, hS2⟩ := hW
  exact W.lret hh hb hr (fun t ht hW2 => ⟨⟨r, (), rfl, rfl, by rw [ht]; exact hP2, va_K.moved hW2.alike hK, hD2, by rw [ht]; exact Nat.le_trans hB hS2.1, hM2, NW_warm hW2 hN, by rw [ht]; exact SW_go hZ hW2 hS2⟩, hS2.F ht⟩) hS2.2.2 hd hlk
theorem mtV {y : MethodName} {cc : ByteArray} {maxL : Nat} {as : List Value} {rm : Room} {E : Env1} {M M' : Mem} {L0 : List (Option Value)} (l0 : Launch) (hy : plainName y.cls = true) (hlen : (lg_sl as).length ≤ maxL) (hL0 : pad maxL (a0 as) = L0)
    (body : ∀ X : Ctx, Cx X l0 E y.cls cc none maxL rm → RetV X E cc M' → G X E (0, 0) 0 L0 [] M) : Met l0 y (wsA y cc maxL none) rm (CP E M as) (CQv E M') 0 0 (eA E) := by
  refine Met.ofW (cc := cc) (maxL := maxL) (ret := none) hy rfl ?_
  intro p e s m args below meth c s₁ B hml hv
  obtain ⟨rfl, hP, hK, hD, hB, hM, hN, hZ⟩ := hv
  have hts := atoms_spec (ws := wsA y cc maxL none) B.pre
  have hown : s.vm.findClass y.cls = some m.cls := findClass_of_methodNamed B.named
  have hh := B.exec
  have hb := B.bytes
  have hr := B.returns
  have hlk := B.notSynchronized
  rw [lg_entry_eq]
  have hX : Cx (p, l0, e, rm, s, m, as.toArray, below, meth, c, MQ below (CQv E M') as.toArray s 0 0 (eA E), maxL) l0 E y.cls cc none maxL rm := ⟨hh, hb, hr, hml, hown, fun w hw => hts w (List.mem_cons_of_mem _ hw), hlk, hK, hB, rfl, rfl, rfl, hN, hZ⟩
  refine body _ hX ?_ s.heap [] _ ⟨hP, hD, va_S.rf⟩ hM (lvO_entry as hlen hL0)
  intro pc L hd
  intro H locs ls hW hM2 hl
  obtain ⟨hP2, hD2, hS2⟩ := hW
  exact W.vret hh hb hr (fun t ht hW2 => ⟨⟨(), rfl, trivial, by rw [ht]; exact hP2, va_K.moved hW2.alike hK, hD2, by rw [ht]; exact Nat.le_trans hB hS2.1, hM2, NW_warm hW2 hN, by rw [ht]; exact SW_go hZ hW2 hS2⟩, hS2.F ht⟩) hS2.2.2 hd hlk
section RowsC
variable {X : Ctx} {l0 : Launch} {E : Env1} {own : String} {cc : ByteArray} {ret : Option FieldType} {nL pc : Nat} {rm : Room} {L L' : List (Option Value)} {stk st : List Value} {M M' : Mem}
variable {y : MethodName} {cc2 : ByteArray} {maxL2 : Nat} {ret2 : Option FieldType} {rm2 : Room} {as : List Value} {idx n ci q : Nat} {C host : String} {T : u_T} {N : Nat} {Qc : Array Value → State → Outcome → State → Prop}
theorem PreU_at {E : Env1} {M : Mem} {s : State} {H : Heap} {U : State} (hK : va_K (eD E) vwCl (tysE E) s) (hP : va_P (eD E) vwCl (va_pl (eL E) (cel E M)) H) (hD : va_D (eA E) (va_pl (eL E) (cel E M))) (hB : eB E ≤ H.size) (hM : WM E M) (hN : NW s) {locs : List Loc} (hS : va_S (eA E) s.heap H locs) (hZ : SW E s s.heap) (hU : U.heap = H) (hW : s.WarmedH U.vm) : PreU E M U := ⟨by rw [hU]; exact hP, va_K.moved hW.alike hK, hD, by rw [hU]; exact hB, hM, NW_warm hW hN, by rw [hU]; exact SW_go hZ hW hS⟩
def roomOk (rm2 rm : Room) (maxL2 : Nat) : Prop := rm2.cells = 0 ∧ rm2.slots = 0 ∧ rm2.frames + 1 ≤ rm.frames ∧ 8 + (maxL2 + 11) + rm2.locals ≤ rm.locals
def nameOk (y : MethodName) (n : Nat) : Prop := y.cls ≠ "java/lang/invoke/MethodHandle" ∧ y.cls ≠ "java/lang/invoke/VarHandle" ∧ (parseMethodDescriptor y.desc).map (fun d => d.parameters.length) = some n

theorem G_cVi (h : Cx X l0 E own cc ret nL rm) {r : Int32} (hM0 : Met l0 y (wsA y cc2 maxL2 ret2) rm2 (CP E M (.ref q :: as)) (CQi E r M') 0 0 (eA E)) (hcl : vwCl[ci]? = some (C, T, N)) (hci : ci < 9) (hyC : y.cls = C) (hy : nameOk y n) (hlink : Cond.methodLink own idx y ∈ lw_g) (hinst : Cond.instanceMethod y ∈ lw_g) (hsel : Cond.selects C y y ∈ lw_g) (hini : Cond.initialized C ∈ lw_g) (hcode : Cond.code y cc2 maxL2 ret2 ∈ lw_g)
    (hd : decode cc pc = .ok (.invokevirtual idx, 3)) (hq : isK E q ci) (hstk : stk = as.reverse ++ .ref q :: st) {pc' : Nat} (hp : pc + 3 = pc') (hroom : roomOk rm2 rm maxL2) (hn : as.length = n) (hcat : (st.map fun v => v.category).sum ≤ 8) (kk : G X E (0, 0) pc' L (.int r :: st) M') : G X E (0, 0) pc L stk M := by
  subst hp
  obtain ⟨p, l, e, R, s, m, args, below, meth, c, Q, nl⟩ := X
  obtain ⟨hx, hb, hr, hml, hown, hts, hlk, hK, hB, rfl, rfl, rfl, hN, hZ⟩ := h
  intro H locs ls hW hM hl
  obtain ⟨hP, hD, hS⟩ := hW
  have hBH : eB E ≤ H.size := Nat.le_trans hB hS.1
  obtain ⟨j, hj⟩ := va_pl_get (X := []) (f := cel E M) hq.1
  rw [pl0, cel_obj hq.2 hci] at hj
  have hcw := callB_of (own := own) (index := idx) n hts (wsA_good hcode) rfl hroom.1 hroom.2.1 (by rw [hyC]; exact hts _ hini) (hts _ hlink) hy hroom.2.2
  refine va_calli (va_runV (C := C) ⟨hx, hb, hml, hown, hts⟩ hM0 ⟨hcw, hts _ hinst, hts _ hsel⟩ ⟨CP_blind, va_recv hK hP hcl hj, fun U hU hW => ⟨rfl, PreU_at hK hP hD hBH hM hN hS hZ hU hW⟩⟩ rfl hn hl.1 hstk (by simpa using hcat) hd ⟨Nat.zero_le _, Nat.zero_le _⟩) hS (fun _ _ z => z) (fun _ z => z) (fun r0 _ t H1 locs1 ht hvm hpost hB1 hz1 hk1 hS1 => ?_)
  obtain ⟨hP2, hK2, hD2, hB2, hM2, -, -⟩ := hB1
  rw [ht] at hP2
  obtain rfl := hpost
  exact kk H1 locs1 ls ⟨hP2, hD2, hS1⟩ hM2 hl
theorem G_cSi (h : Cx X l0 E own cc ret nL rm) {r : Int32} (hM0 : Met l0 y (wsA y cc2 maxL2 ret2) rm2 (CP E M as) (CQi E r M') 0 0 (eA E)) (hy : nameOk y n) (hlink : Cond.methodLink own idx y ∈ lw_g) (hstat : Cond.static y ∈ lw_g) (hini : Cond.initialized y.cls ∈ lw_g) (hcode : Cond.code y cc2 maxL2 ret2 ∈ lw_g)
    (hd : decode cc pc = .ok (.invokestatic idx, 3)) (hstk : stk = as.reverse ++ st) {pc' : Nat} (hp : pc + 3 = pc') (hroom : roomOk rm2 rm maxL2) (hn : as.length = n) (hcat : (st.map fun v => v.category).sum ≤ 8) (kk : G X E (0, 0) pc' L (.int r :: st) M') : G X E (0, 0) pc L stk M := by
  subst hp
  obtain ⟨p, l, e, R, s, m, args, below, meth, c, Q, nl⟩ := X
  obtain ⟨hx, hb, hr, hml, hown, hts, hlk, hK, hB, rfl, rfl, rfl, hN, hZ⟩ := h
  intro H locs ls hW hM hl
  obtain ⟨hP, hD, hS⟩ := hW
  have hBH : eB E ≤ H.size := Nat.le_trans hB hS.1
  have hcw := callB_of (own := own) (index := idx) n hts (wsA_good hcode) rfl hroom.1 hroom.2.1 (hts _ hini) (hts _ hlink) hy hroom.2.2
  refine va_calli (va_runS ⟨hx, hb, hml, hown, hts⟩ hM0 ⟨hcw, hts _ hstat⟩ ⟨CP_blind, fun U hU hW => ⟨rfl, PreU_at hK hP hD hBH hM hN hS hZ hU hW⟩⟩ rfl hn hl.1 hstk (by simpa using hcat) hd ⟨Nat.zero_le _, Nat.zero_le _⟩) hS (fun _ _ z => z) (fun _ z => z) (fun r0 _ t H1 locs1 ht hvm hpost hB1 hz1 hk1 hS1 => ?_)
  obtain ⟨hP2, hK2, hD2, hB2, hM2, -, -⟩ := hB1
  rw [ht] at hP2
  obtain rfl := hpost
  exact kk H1 locs1 ls ⟨hP2, hD2, hS1⟩ hM2 hl
theorem G_cSNi (h : Cx X l0 E own cc ret nL rm) {r : Int32} (hM0 : Met l0 y (wsA y cc2 maxL2 ret2) rm2 (CP E M as) (CQi E r M') 0 0 (eA E)) (hy : nameOk y n) (hlink : (own, idx, y, host) ∈ nwM) (hstat : Cond.static y ∈ lw_g) (hini : Cond.initialized y.cls ∈ lw_g) (hcode : Cond.code y cc2 maxL2 ret2 ∈ lw_g)
    (hd : decode cc pc = .ok (.invokestatic idx, 3)) (hstk : stk = as.reverse ++ st) {pc' : Nat} (hp : pc + 3 = pc') (hroom : roomOk rm2 rm maxL2) (hn : as.length = n) (hcat : (st.map fun v => v.category).sum ≤ 8) (kk : G X E (0, 0) pc' L (.int r :: st) M') : G X E (0, 0) pc L stk M := by
  subst hp
  obtain ⟨p, l, e, R, s, m, args, below, meth, c, Q, nl⟩ := X
  obtain ⟨hx, hb, hr, hml, hown, hts, hlk, hK, hB, rfl, rfl, rfl, hN, hZ⟩ := h
  intro H locs ls hW hM hl
  obtain ⟨hP, hD, hS⟩ := hW
  have hBH : eB E ≤ H.size := Nat.le_trans hB hS.1
  have hcw := va_cnB (own := own) (index := idx) (host := host) n hts (wsA_good hcode) rfl hroom.1 hroom.2.1 (hN.1 _ hlink) (hts _ hini) hy hroom.2.2
  refine va_calli (va_runSN ⟨hx, hb, hml, hown, hts⟩ hM0 ⟨hcw, hts _ hstat, trivial⟩ ⟨CP_blind, fun U hU hW => ⟨rfl, PreU_at hK hP hD hBH hM hN hS hZ hU hW⟩⟩ rfl hn hl.1 hstk (by simpa using hcat) hd ⟨Nat.zero_le _, Nat.zero_le _⟩) hS (fun _ _ z => z) (fun _ z => z) (fun r0 _ t H1 locs1 ht hvm hpost hB1 hz1 hk1 hS1 => ?_)
  obtain ⟨hP2, hK2, hD2, hB2, hM2, -, -⟩ := hB1
  rw [ht] at hP2
  obtain rfl := hpost
  exact kk H1 locs1 ls ⟨hP2, hD2, hS1⟩ hM2 hl
theorem G_cVz (h : Cx X l0 E own cc ret nL rm) {r : Int32} (hM0 : Met l0 y (wsA y cc2 maxL2 ret2) rm2 (CP E M (.ref q :: as)) (CQz E r M') 0 0 (eA E)) (hcl : vwCl[ci]? = some (C, T, N)) (hci : ci < 9) (hyC : y.cls = C) (hy : nameOk y n) (hlink : Cond.methodLink own idx y ∈ lw_g) (hinst : Cond.instanceMethod y ∈ lw_g) (hsel : Cond.selects C y y ∈ lw_g) (hini : Cond.initialized C ∈ lw_g) (hcode : Cond.code y cc2 maxL2 ret2 ∈ lw_g)
    (hd : decode cc pc = .ok (.invokevirtual idx, 3)) (hq : isK E q ci) (hstk : stk = as.reverse ++ .ref q :: st) {pc' : Nat} (hp : pc + 3 = pc') (hroom : roomOk rm2 rm maxL2) (hn : as.length = n) (hcat : (st.map fun v => v.category).sum ≤ 8) (kk : (r = 0 ∨ r = 1) → G X E (0, 0) pc' L (.int r :: st) M') : G X E (0, 0) pc L stk M := by
  subst hp
  obtain ⟨p, l, e, R, s, m, args, below, meth, c, Q, nl⟩ := X
  obtain ⟨hx, hb, hr, hml, hown, hts, hlk, hK, hB, rfl, rfl, rfl, hN, hZ⟩ := h
  intro H locs ls hW hM hl
  obtain ⟨hP, hD, hS⟩ := hW
  have hBH : eB E ≤ H.size := Nat.le_trans hB hS.1
  obtain ⟨j, hj⟩ := va_pl_get (X := []) (f := cel E M) hq.1
  rw [pl0, cel_obj hq.2 hci] at hj
  have hcw := callB_of (own := own) (index := idx) n hts (wsA_good hcode) rfl hroom.1 hroom.2.1 (by rw [hyC]; exact hts _ hini) (hts _ hlink) hy hroom.2.2
  refine va_calli (va_runV (C := C) ⟨hx, hb, hml, hown, hts⟩ hM0 ⟨hcw, hts _ hinst, hts _ hsel⟩ ⟨CP_blind, va_recv hK hP hcl hj, fun U hU hW => ⟨rfl, PreU_at hK hP hD hBH hM hN hS hZ hU hW⟩⟩ rfl hn hl.1 hstk (by simpa using hcat) hd ⟨Nat.zero_le _, Nat.zero_le _⟩) hS (fun _ _ z => z) (fun _ z => z) (fun r0 _ t H1 locs1 ht hvm hpost hB1 hz1 hk1 hS1 => ?_)
  obtain ⟨hP2, hK2, hD2, hB2, hM2, -, -⟩ := hB1
  rw [ht] at hP2
  obtain ⟨rfl, hz⟩ := hpost
  exact kk hz H1 locs1 ls ⟨hP2, hD2, hS1⟩ hM2 hl
theorem G_cSz (h : Cx X l0 E own cc ret nL rm) {r : Int32} (hM0 : Met l0 y (wsA y cc2 maxL2 ret2) rm2 (CP E M as) (CQz E r M') 0 0 (eA E)) (hy : nameOk y n) (hlink : Cond.methodLink own idx y ∈ lw_g) (hstat : Cond.static y ∈ lw_g) (hini : Cond.initialized y.cls ∈ lw_g) (hcode : Cond.code y cc2 maxL2 ret2 ∈ lw_g)
    (hd : decode cc pc = .ok (.invokestatic idx, 3)) (hstk : stk = as.reverse ++ st) {pc' : Nat} (hp : pc + 3 = pc') (hroom : roomOk rm2 rm maxL2) (hn : as.length = n) (hcat : (st.map fun v => v.category).sum ≤ 8) (kk : (r = 0 ∨ r = 1) → G X E (0, 0) pc' L (.int r :: st) M') : G X E (0, 0) pc L stk M := by
  subst hp
  obtain ⟨p, l, e, R, s, m, args, below, meth, c, Q, nl⟩ := X
  obtain ⟨hx, hb, hr, hml, hown, hts, hlk, hK, hB, rfl, rfl, rfl, hN, hZ⟩ := h
  intro H locs ls hW hM hl
  obtain ⟨hP, hD, hS⟩ := hW
  have hBH : eB E ≤ H.size := Nat.le_trans hB hS.1
  have hcw := callB_of (own := own) (index := idx) n hts (wsA_good hcode) rfl hroom.1 hroom.2.1 (hts _ hini) (hts _ hlink) hy hroom.2.2
  refine va_calli (va_runS ⟨hx, hb, hml, hown, hts⟩ hM0 ⟨hcw, hts _ hstat⟩ ⟨CP_blind, fun U hU hW => ⟨rfl, PreU_at hK hP hD hBH hM hN hS hZ hU hW⟩⟩ rfl hn hl.1 hstk (by simpa using hcat) hd ⟨Nat.zero_le _, Nat.zero_le _⟩) hS (fun _ _ z => z) (fun _ z => z) (fun r0 _ t H1 locs1 ht hvm hpost hB1 hz1 hk1 hS1 => ?_)
  obtain ⟨hP2, hK2, hD2, hB2, hM2, -, -⟩ := hB1
  rw [ht] at hP2
  obtain ⟨rfl, hz⟩ := hpost
  exact kk hz H1 locs1 ls ⟨hP2, hD2, hS1⟩ hM2 hl
theorem G_cSNz (h : Cx X l0 E own cc ret nL rm) {r : Int32} (hM0 : Met l0 y (wsA y cc2 maxL2 ret2) rm2 (CP E M as) (CQz E r M') 0 0 (eA E)) (hy : nameOk y n) (hlink : (own, idx, y, host) ∈ nwM) (hstat : Cond.static y ∈ lw_g) (hini : Cond.initialized y.cls ∈ lw_g) (hcode : Cond.code y cc2 maxL2 ret2 ∈ lw_g)
    (hd : decode cc pc = .ok (.invokestatic idx, 3)) (hstk : stk = as.reverse ++ st) {pc' : Nat} (hp : pc + 3 = pc') (hroom : roomOk rm2 rm maxL2) (hn : as.length = n) (hcat : (st.map fun v => v.category).sum ≤ 8) (kk : (r = 0 ∨ r = 1) → G X E (0, 0) pc' L (.int r :: st) M') : G X E (0, 0) pc L stk M := by
  subst hp
  obtain ⟨p, l, e, R, s, m, args, below, meth, c, Q, nl⟩ := X
  obtain ⟨hx, hb, hr, hml, hown, hts, hlk, hK, hB, rfl, rfl, rfl, hN, hZ⟩ := h
  intro H locs ls hW hM hl
  obtain ⟨hP, hD, hS⟩ := hW
  have hBH : eB E ≤ H.size := Nat.le_trans hB hS.1
  have hcw := va_cnB (own := own) (index := idx) (host := host) n hts (wsA_good hcode) rfl hroom.1 hroom.2.1 (hN.1 _ hlink) (hts _ hini) hy hroom.2.2
  refine va_calli (va_runSN ⟨hx, hb, hml, hown, hts⟩ hM0 ⟨hcw, hts _ hstat, trivial⟩ ⟨CP_blind, fun U hU hW => ⟨rfl, PreU_at hK hP hD hBH hM hN hS hZ hU hW⟩⟩ rfl hn hl.1 hstk (by simpa using hcat) hd ⟨Nat.zero_le _, Nat.zero_le _⟩) hS (fun _ _ z => z) (fun _ z => z) (fun r0 _ t H1 locs1 ht hvm hpost hB1 hz1 hk1 hS1 => ?_)
  obtain ⟨hP2, hK2, hD2, hB2, hM2, -, -⟩ := hB1
  rw [ht] at hP2
  obtain ⟨rfl, hz⟩ := hpost
  exact kk hz H1 locs1 ls ⟨hP2, hD2, hS1⟩ hM2 hl
theorem G_cVl (h : Cx X l0 E own cc ret nL rm) {r : Int64} (hM0 : Met l0 y (wsA y cc2 maxL2 ret2) rm2 (CP E M (.ref q :: as)) (CQl E r M') 0 0 (eA E)) (hcl : vwCl[ci]? = some (C, T, N)) (hci : ci < 9) (hyC : y.cls = C) (hy : nameOk y n) (hlink : Cond.methodLink own idx y ∈ lw_g) (hinst : Cond.instanceMethod y ∈ lw_g) (hsel : Cond.selects C y y ∈ lw_g) (hini : Cond.initialized C ∈ lw_g) (hcode : Cond.code y cc2 maxL2 ret2 ∈ lw_g)
    (hd : decode cc pc = .ok (.invokevirtual idx, 3)) (hq : isK E q ci) (hstk : stk = as.reverse ++ .ref q :: st) {pc' : Nat} (hp : pc + 3 = pc') (hroom : roomOk rm2 rm maxL2) (hn : as.length = n) (hcat : (st.map fun v => v.category).sum ≤ 8) (kk : G X E (0, 0) pc' L (.long r :: st) M') : G X E (0, 0) pc L stk M := by
  subst hp
  obtain ⟨p, l, e, R, s, m, args, below, meth, c, Q, nl⟩ := X
  obtain ⟨hx, hb, hr, hml, hown, hts, hlk, hK, hB, rfl, rfl, rfl, hN, hZ⟩ := h
  intro H locs ls hW hM hl
  obtain ⟨hP, hD, hS⟩ := hW
  have hBH : eB E ≤ H.size := Nat.le_trans hB hS.1
  obtain ⟨j, hj⟩ := va_pl_get (X := []) (f := cel E M) hq.1
  rw [pl0, cel_obj hq.2 hci] at hj
  have hcw := callB_of (own := own) (index := idx) n hts (wsA_good hcode) rfl hroom.1 hroom.2.1 (by rw [hyC]; exact hts _ hini) (hts _ hlink) hy hroom.2.2
  refine va_calll (va_runV (C := C) ⟨hx, hb, hml, hown, hts⟩ hM0 ⟨hcw, hts _ hinst, hts _ hsel⟩ ⟨CP_blind, va_recv hK hP hcl hj, fun U hU hW => ⟨rfl, PreU_at hK hP hD hBH hM hN hS hZ hU hW⟩⟩ rfl hn hl.1 hstk (by simpa using hcat) hd ⟨Nat.zero_le _, Nat.zero_le _⟩) hS (fun _ _ z => z) (fun _ z => z) (fun r0 _ t H1 locs1 ht hvm hpost hB1 hz1 hk1 hS1 => ?_)
  obtain ⟨hP2, hK2, hD2, hB2, hM2, -, -⟩ := hB1
  rw [ht] at hP2
  obtain rfl := hpost
  exact kk H1 locs1 ls ⟨hP2, hD2, hS1⟩ hM2 hl
theorem G_cSl (h : Cx X l0 E own cc ret nL rm) {r : Int64} (hM0 : Met l0 y (wsA y cc2 maxL2 ret2) rm2 (CP E M as) (CQl E r M') 0 0 (eA E)) (hy : nameOk y n) (hlink : Cond.methodLink own idx y ∈ lw_g) (hstat : Cond.static y ∈ lw_g) (hini : Cond.initialized y.cls ∈ lw_g) (hcode : Cond.code y cc2 maxL2 ret2 ∈ lw_g)
    (hd : decode cc pc = .ok (.invokestatic idx, 3)) (hstk : stk = as.reverse ++ st) {pc' : Nat} (hp : pc + 3 = pc') (hroom : roomOk rm2 rm maxL2) (hn : as.length = n) (hcat : (st.map fun v => v.category).sum ≤ 8) (kk : G X E (0, 0) pc' L (.long r :: st) M') : G X E (0, 0) pc L stk M := by
  subst hp
  obtain ⟨p, l, e, R, s, m, args, below, meth, c, Q, nl⟩ := X
  obtain ⟨hx, hb, hr, hml, hown, hts, hlk, hK, hB, rfl, rfl, rfl, hN, hZ⟩ := h
  intro H locs ls hW hM hl
  obtain ⟨hP, hD, hS⟩ := hW
  have hBH : eB E ≤ H.size := Nat.le_trans hB hS.1
  have hcw := callB_of (own := own) (index := idx) n hts (wsA_good hcode) rfl hroom.1 hroom.2.1 (hts _ hini) (hts _ hlink) hy hroom.2.2
  refine va_calll (va_runS ⟨hx, hb, hml, hown, hts⟩ hM0 ⟨hcw, hts _ hstat⟩ ⟨CP_blind, fun U hU hW => ⟨rfl, PreU_at hK hP hD hBH hM hN hS hZ hU hW⟩⟩ rfl hn hl.1 hstk (by simpa using hcat) hd ⟨Nat.zero_le _, Nat.zero_le _⟩) hS (fun _ _ z => z) (fun _ z => z) (fun r0 _ t H1 locs1 ht hvm hpost hB1 hz1 hk1 hS1 => ?_)
  obtain ⟨hP2, hK2, hD2, hB2, hM2, -, -⟩ := hB1
  rw [ht] at hP2
  obtain rfl := hpost
  exact kk H1 locs1 ls ⟨hP2, hD2, hS1⟩ hM2 hl
theorem G_cSNl (h : Cx X l0 E own cc ret nL rm) {r : Int64} (hM0 : Met l0 y (wsA y cc2 maxL2 ret2) rm2 (CP E M as) (CQl E r M') 0 0 (eA E)) (hy : nameOk y n) (hlink : (own, idx, y, host) ∈ nwM) (hstat : Cond.static y ∈ lw_g) (hini : Cond.initialized y.cls ∈ lw_g) (hcode : Cond.code y cc2 maxL2 ret2 ∈ lw_g)
    (hd : decode cc pc = .ok (.invokestatic idx, 3)) (hstk : stk = as.reverse ++ st) {pc' : Nat} (hp : pc + 3 = pc') (hroom : roomOk rm2 rm maxL2) (hn : as.length = n) (hcat : (st.map fun v => v.category).sum ≤ 8) (kk : G X E (0, 0) pc' L (.long r :: st) M') : G X E (0, 0) pc L stk M := by
  subst hp
  obtain ⟨p, l, e, R, s, m, args, below, meth, c, Q, nl⟩ := X
  obtain ⟨hx, hb, hr, hml, hown, hts, hlk, hK, hB, rfl, rfl, rfl, hN, hZ⟩ := h
  intro H locs ls hW hM hl
  obtain ⟨hP, hD, hS⟩ := hW
  have hBH : eB E ≤ H.size := Nat.le_trans hB hS.1
  have hcw := va_cnB (own := own) (index := idx) (host := host) n hts (wsA_good hcode) rfl hroom.1 hroom.2.1 (hN.1 _ hlink) (hts _ hini) hy hroom.2.2
  refine va_calll (va_runSN ⟨hx, hb, hml, hown, hts⟩ hM0 ⟨hcw, hts _ hstat, trivial⟩ ⟨CP_blind, fun U hU hW => ⟨rfl, PreU_at hK hP hD hBH hM hN hS hZ hU hW⟩⟩ rfl hn hl.1 hstk (by simpa using hcat) hd ⟨Nat.zero_le _, Nat.zero_le _⟩) hS (fun _ _ z => z) (fun _ z => z) (fun r0 _ t H1 locs1 ht hvm hpost hB1 hz1 hk1 hS1 => ?_)
  obtain ⟨hP2, hK2, hD2, hB2, hM2, -, -⟩ := hB1
  rw [ht] at hP2
  obtain rfl := hpost
  exact kk H1 locs1 ls ⟨hP2, hD2, hS1⟩ hM2 hl
theorem G_cVv (h : Cx X l0 E own cc ret nL rm) (hM0 : Met l0 y (wsA y cc2 maxL2 ret2) rm2 (CP E M (.ref q :: as)) (CQv E M') 0 0 (eA E)) (hcl : vwCl[ci]? = some (C, T, N)) (hci : ci < 9) (hyC : y.cls = C) (hy : nameOk y n) (hlink : Cond.methodLink own idx y ∈ lw_g) (hinst : Cond.instanceMethod y ∈ lw_g) (hsel : Cond.selects C y y ∈ lw_g) (hini : Cond.initialized C ∈ lw_g) (hcode : Cond.code y cc2 maxL2 ret2 ∈ lw_g)
    (hd : decode cc pc = .ok (.invokevirtual idx, 3)) (hq : isK E q ci) (hstk : stk = as.reverse ++ .ref q :: st) {pc' : Nat} (hp : pc + 3 = pc') (hroom : roomOk rm2 rm maxL2) (hn : as.length = n) (hcat : (st.map fun v => v.category).sum ≤ 8) (kk : G X E (0, 0) pc' L st M') : G X E (0, 0) pc L stk M := by
  subst hp
  obtain ⟨p, l, e, R, s, m, args, below, meth, c, Q, nl⟩ := X
  obtain ⟨hx, hb, hr, hml, hown, hts, hlk, hK, hB, rfl, rfl, rfl, hN, hZ⟩ := h
  intro H locs ls hW hM hl
  obtain ⟨hP, hD, hS⟩ := hW
  have hBH : eB E ≤ H.size := Nat.le_trans hB hS.1
  obtain ⟨j, hj⟩ := va_pl_get (X := []) (f := cel E M) hq.1
  rw [pl0, cel_obj hq.2 hci] at hj
  have hcw := callB_of (own := own) (index := idx) n hts (wsA_good hcode) rfl hroom.1 hroom.2.1 (by rw [hyC]; exact hts _ hini) (hts _ hlink) hy hroom.2.2
  refine va_callv (va_runV (C := C) ⟨hx, hb, hml, hown, hts⟩ hM0 ⟨hcw, hts _ hinst, hts _ hsel⟩ ⟨CP_blind, va_recv hK hP hcl hj, fun U hU hW => ⟨rfl, PreU_at hK hP hD hBH hM hN hS hZ hU hW⟩⟩ rfl hn hl.1 hstk (by simpa using hcat) hd ⟨Nat.zero_le _, Nat.zero_le _⟩) hS (fun _ _ z => z) (fun _ z => z) (fun _ t H1 locs1 ht hvm hpost hB1 hz1 hk1 hS1 => ?_)
  obtain ⟨hP2, hK2, hD2, hB2, hM2, -, -⟩ := hB1
  rw [ht] at hP2
  exact kk H1 locs1 ls ⟨hP2, hD2, hS1⟩ hM2 hl
theorem G_cSv (h : Cx X l0 E own cc ret nL rm) (hM0 : Met l0 y (wsA y cc2 maxL2 ret2) rm2 (CP E M as) (CQv E M') 0 0 (eA E)) (hy : nameOk y n) (hlink : Cond.methodLink own idx y ∈ lw_g) (hstat : Cond.static y ∈ lw_g) (hini : Cond.initialized y.cls ∈ lw_g) (hcode : Cond.code y cc2 maxL2 ret2 ∈ lw_g)
    (hd : decode cc pc = .ok (.invokestatic idx, 3)) (hstk : stk = as.reverse ++ st) {pc' : Nat} (hp : pc + 3 = pc') (hroom : roomOk rm2 rm maxL2) (hn : as.length = n) (hcat : (st.map fun v => v.category).sum ≤ 8) (kk : G X E (0, 0) pc' L st M') : G X E (0, 0) pc L stk M := by
  subst hp
  obtain ⟨p, l, e, R, s, m, args, below, meth, c, Q, nl⟩ := X
  obtain ⟨hx, hb, hr, hml, hown, hts, hlk, hK, hB, rfl, rfl, rfl, hN, hZ⟩ := h
  intro H locs ls hW hM hl
  obtain ⟨hP, hD, hS⟩ := hW
  have hBH : eB E ≤ H.size := Nat.le_trans hB hS.1
  have hcw := callB_of (own := own) (index := idx) n hts (wsA_good hcode) rfl hroom.1 hroom.2.1 (hts _ hini) (hts _ hlink) hy hroom.2.2
  refine va_callv (va_runS ⟨hx, hb, hml, hown, hts⟩ hM0 ⟨hcw, hts _ hstat⟩ ⟨CP_blind, fun U hU hW => ⟨rfl, PreU_at hK hP hD hBH hM hN hS hZ hU hW⟩⟩ rfl hn hl.1 hstk (by simpa using hcat) hd ⟨Nat.zero_le _, Nat.zero_le _⟩) hS (fun _ _ z => z) (fun _ z => z) (fun _ t H1 locs1 ht hvm hpost hB1 hz1 hk1 hS1 => ?_)
  obtain ⟨hP2, hK2, hD2, hB2, hM2, -, -⟩ := hB1
  rw [ht] at hP2
  exact kk H1 locs1 ls ⟨hP2, hD2, hS1⟩ hM2 hl
theorem G_cSNv (h : Cx X l0 E own cc ret nL rm) (hM0 : Met l0 y (wsA y cc2 maxL2 ret2) rm2 (CP E M as) (CQv E M') 0 0 (eA E)) (hy : nameOk y n) (hlink : (own, idx, y, host) ∈ nwM) (hstat : Cond.static y ∈ lw_g) (hini : Cond.initialized y.cls ∈ lw_g) (hcode : Cond.code y cc2 maxL2 ret2 ∈ lw_g)
    (hd : decode cc pc = .ok (.invokestatic idx, 3)) (hstk : stk = as.reverse ++ st) {pc' : Nat} (hp : pc + 3 = pc') (hroom : roomOk rm2 rm maxL2) (hn : as.length = n) (hcat : (st.map fun v => v.category).sum ≤ 8) (kk : G X E (0, 0) pc' L st M') : G X E (0, 0) pc L stk M := by
  subst hp
  obtain ⟨p, l, e, R, s, m, args, below, meth, c, Q, nl⟩ := X
  obtain ⟨hx, hb, hr, hml, hown, hts, hlk, hK, hB, rfl, rfl, rfl, hN, hZ⟩ := h
  intro H locs ls hW hM hl
  obtain ⟨hP, hD, hS⟩ := hW
  have hBH : eB E ≤ H.size := Nat.le_trans hB hS.1
  have hcw := va_cnB (own := own) (index := idx) (host := host) n hts (wsA_good hcode) rfl hroom.1 hroom.2.1 (hN.1 _ hlink) (hts _ hini) hy hroom.2.2
  refine va_callv (va_runSN ⟨hx, hb, hml, hown, hts⟩ hM0 ⟨hcw, hts _ hstat, trivial⟩ ⟨CP_blind, fun U hU hW => ⟨rfl, PreU_at hK hP hD hBH hM hN hS hZ hU hW⟩⟩ rfl hn hl.1 hstk (by simpa using hcat) hd ⟨Nat.zero_le _, Nat.zero_le _⟩) hS (fun _ _ z => z) (fun _ z => z) (fun _ t H1 locs1 ht hvm hpost hB1 hz1 hk1 hS1 => ?_)
  obtain ⟨hP2, hK2, hD2, hB2, hM2, -, -⟩ := hB1
  rw [ht] at hP2
  exact kk H1 locs1 ls ⟨hP2, hD2, hS1⟩ hM2 hl
theorem G_cUi (h : Cx X l0 E own cc ret nL rm) {x : MethodName} {owner : String} {r : Int32} (hM0 : Met l0 y (wsA y cc2 maxL2 ret2) rm2 (CP E M (.ref q :: as)) (CQi E r M') 0 0 (eA E)) (hcl : vwCl[ci]? = some (C, T, N)) (hci : ci < 9) (hy : owner ≠ "java/lang/invoke/MethodHandle" ∧ owner ≠ "java/lang/invoke/VarHandle" ∧ (parseMethodDescriptor x.desc).map (fun d => d.parameters.length) = some n) (hdec : ∀ (args : Array Value) (s : State), (∀ w ∈ lw_g, w.before args s = true) → NW s → va_Decl s ⟨owner, x.name, x.desc⟩) (hlink : Cond.methodLink own idx x ∈ lw_g) (hsame : Cond.sameMethod x.cls owner x.name x.desc ∈ lw_g) (hinst : Cond.instanceMethod y ∈ lw_g) (hsel : ∀ (args : Array Value) (s : State), (∀ w ∈ lw_g, w.before args s = true) → NW s → (Cond.selects C x y).before args s = true) (hini : Cond.initialized y.cls ∈ lw_g) (hcode : Cond.code y cc2 maxL2 ret2 ∈ lw_g)
    (hd : decode cc pc = .ok (.invokevirtual idx, 3)) (hq : isK E q ci) (hstk : stk = as.reverse ++ .ref q :: st) {pc' : Nat} (hp : pc + 3 = pc') (hroom : roomOk rm2 rm maxL2) (hn : as.length = n) (hcat : (st.map fun v => v.category).sum ≤ 8) (kk : G X E (0, 0) pc' L (.int r :: st) M') : G X E (0, 0) pc L stk M := by
  subst hp
  obtain ⟨p, l, e, R, s, m, args, below, meth, c, Q, nl⟩ := X
  obtain ⟨hx, hb, hr, hml, hown, hts, hlk, hK, hB, rfl, rfl, rfl, hN, hZ⟩ := h
  intro H locs ls hW hM hl
  obtain ⟨hP, hD, hS⟩ := hW
  have hBH : eB E ≤ H.size := Nat.le_trans hB hS.1
  obtain ⟨j, hj⟩ := va_pl_get (X := []) (f := cel E M) hq.1
  rw [pl0, cel_obj hq.2 hci] at hj
  have hcw : va_CU R s args own C owner idx x y cc2 maxL2 ret2 (wsA y cc2 maxL2 ret2) rm2 0 0 n := by
    refine ⟨⟨hroom.1, hroom.2.1, hroom.2.2.1, hroom.2.2.2, pay_in hts (wsA_good hcode), List.mem_cons_self⟩, hts _ hcode, hts _ hini, ⟨hy.1, hy.2.1⟩, fun sig hg => ?_, hts _ hlink, hts _ hsame, hdec args s hts hN, hsel args s hts hN, hts _ hinst⟩
    have h2 := hy.2.2
    rw [hg] at h2
    exact (Option.some.inj h2).symm
  refine va_calli (va_runU (C := C) ⟨hx, hb, hml, hown, hts⟩ hM0 hcw ⟨CP_blind, va_recv hK hP hcl hj, fun U hU hW => ⟨rfl, PreU_at hK hP hD hBH hM hN hS hZ hU hW⟩⟩ rfl hn hl.1 hstk (by simpa using hcat) hd ⟨Nat.zero_le _, Nat.zero_le _⟩) hS (fun _ _ z => z) (fun _ z => z) (fun r0 _ t H1 locs1 ht hvm hpost hB1 hz1 hk1 hS1 => ?_)
  obtain ⟨hP2, hK2, hD2, hB2, hM2, -, -⟩ := hB1
  rw [ht] at hP2
  obtain rfl := hpost
  exact kk H1 locs1 ls ⟨hP2, hD2, hS1⟩ hM2 hl
theorem G_cUz (h : Cx X l0 E own cc ret nL rm) {x : MethodName} {owner : String} {r : Int32} (hM0 : Met l0 y (wsA y cc2 maxL2 ret2) rm2 (CP E M (.ref q :: as)) (CQz E r M') 0 0 (eA E)) (hcl : vwCl[ci]? = some (C, T, N)) (hci : ci < 9) (hy : owner ≠ "java/lang/invoke/MethodHandle" ∧ owner ≠ "java/lang/invoke/VarHandle" ∧ (parseMethodDescriptor x.desc).map (fun d => d.parameters.length) = some n) (hdec : ∀ (args : Array Value) (s : State), (∀ w ∈ lw_g, w.before args s = true) → NW s → va_Decl s ⟨owner, x.name, x.desc⟩) (hlink : Cond.methodLink own idx x ∈ lw_g) (hsame : Cond.sameMethod x.cls owner x.name x.desc ∈ lw_g) (hinst : Cond.instanceMethod y ∈ lw_g) (hsel : ∀ (args : Array Value) (s : State), (∀ w ∈ lw_g, w.before args s = true) → NW s → (Cond.selects C x y).before args s = true) (hini : Cond.initialized y.cls ∈ lw_g) (hcode : Cond.code y cc2 maxL2 ret2 ∈ lw_g)
    (hd : decode cc pc = .ok (.invokevirtual idx, 3)) (hq : isK E q ci) (hstk : stk = as.reverse ++ .ref q :: st) {pc' : Nat} (hp : pc + 3 = pc') (hroom : roomOk rm2 rm maxL2) (hn : as.length = n) (hcat : (st.map fun v => v.category).sum ≤ 8) (kk : (r = 0 ∨ r = 1) → G X E (0, 0) pc' L (.int r :: st) M') : G X E (0, 0) pc L stk M := by
  subst hp
  obtain ⟨p, l, e, R, s, m, args, below, meth, c, Q, nl⟩ := X
  obtain ⟨hx, hb, hr, hml, hown, hts, hlk, hK, hB, rfl, rfl, rfl, hN, hZ⟩ := h
  intro H locs ls hW hM hl
  obtain ⟨hP, hD, hS⟩ := hW
  have hBH : eB E ≤ H.size := Nat.le_trans hB hS.1
  obtain ⟨j, hj⟩ := va_pl_get (X := []) (f := cel E M) hq.1
  rw [pl0, cel_obj hq.2 hci] at hj
  have hcw : va_CU R s args own C owner idx x y cc2 maxL2 ret2 (wsA y cc2 maxL2 ret2) rm2 0 0 n := by
    refine ⟨⟨hroom.1, hroom.2.1, hroom.2.2.1, hroom.2.2.2, pay_in hts (wsA_good hcode), List.mem_cons_self⟩, hts _ hcode, hts _ hini, ⟨hy.1, hy.2.1⟩, fun sig hg => ?_, hts _ hlink, hts _ hsame, hdec args s hts hN, hsel args s hts hN, hts _ hinst⟩
    have h2 := hy.2.2
    rw [hg] at h2
    exact (Option.some.inj h2).symm
  refine va_calli (va_runU (C := C) ⟨hx, hb, hml, hown, hts⟩ hM0 hcw ⟨CP_blind, va_recv hK hP hcl hj, fun U hU hW => ⟨rfl, PreU_at hK hP hD hBH hM hN hS hZ hU hW⟩⟩ rfl hn hl.1 hstk (by simpa using hcat) hd ⟨Nat.zero_le _, Nat.zero_le _⟩) hS (fun _ _ z => z) (fun _ z => z) (fun r0 _ t H1 locs1 ht hvm hpost hB1 hz1 hk1 hS1 => ?_)
  obtain ⟨hP2, hK2, hD2, hB2, hM2, -, -⟩ := hB1
  rw [ht] at hP2
  obtain ⟨rfl, hz⟩ := hpost
  exact kk hz H1 locs1 ls ⟨hP2, hD2, hS1⟩ hM2 hl
theorem G_cUl (h : Cx X l0 E own cc ret nL rm) {x : MethodName} {owner : String} {r : Int64} (hM0 : Met l0 y (wsA y cc2 maxL2 ret2) rm2 (CP E M (.ref q :: as)) (CQl E r M') 0 0 (eA E)) (hcl : vwCl[ci]? = some (C, T, N)) (hci : ci < 9) (hy : owner ≠ "java/lang/invoke/MethodHandle" ∧ owner ≠ "java/lang/invoke/VarHandle" ∧ (parseMethodDescriptor x.desc).map (fun d => d.parameters.length) = some n) (hdec : ∀ (args : Array Value) (s : State), (∀ w ∈ lw_g, w.before args s = true) → NW s → va_Decl s ⟨owner, x.name, x.desc⟩) (hlink : Cond.methodLink own idx x ∈ lw_g) (hsame : Cond.sameMethod x.cls owner x.name x.desc ∈ lw_g) (hinst : Cond.instanceMethod y ∈ lw_g) (hsel : ∀ (args : Array Value) (s : State), (∀ w ∈ lw_g, w.before args s = true) → NW s → (Cond.selects C x y).before args s = true) (hini : Cond.initialized y.cls ∈ lw_g) (hcode : Cond.code y cc2 maxL2 ret2 ∈ lw_g)
    (hd : decode cc pc = .ok (.invokevirtual idx, 3)) (hq : isK E q ci) (hstk : stk = as.reverse ++ .ref q :: st) {pc' : Nat} (hp : pc + 3 = pc') (hroom : roomOk rm2 rm maxL2) (hn : as.length = n) (hcat : (st.map fun v => v.category).sum ≤ 8) (kk : G X E (0, 0) pc' L (.long r :: st) M') : G X E (0, 0) pc L stk M := by
  subst hp
  obtain ⟨p, l, e, R, s, m, args, below, meth, c, Q, nl⟩ := X
  obtain ⟨hx, hb, hr, hml, hown, hts, hlk, hK, hB, rfl, rfl, rfl, hN, hZ⟩ := h
  intro H locs ls hW hM hl
  obtain ⟨hP, hD, hS⟩ := hW
  have hBH : eB E ≤ H.size := Nat.le_trans hB hS.1
  obtain ⟨j, hj⟩ := va_pl_get (X := []) (f := cel E M) hq.1
  rw [pl0, cel_obj hq.2 hci] at hj
  have hcw : va_CU R s args own C owner idx x y cc2 maxL2 ret2 (wsA y cc2 maxL2 ret2) rm2 0 0 n := by
    refine ⟨⟨hroom.1, hroom.2.1, hroom.2.2.1, hroom.2.2.2, pay_in hts (wsA_good hcode), List.mem_cons_self⟩, hts _ hcode, hts _ hini, ⟨hy.1, hy.2.1⟩, fun sig hg => ?_, hts _ hlink, hts _ hsame, hdec args s hts hN, hsel args s hts hN, hts _ hinst⟩
    have h2 := hy.2.2
    rw [hg] at h2
    exact (Option.some.inj h2).symm
  refine va_calll (va_runU (C := C) ⟨hx, hb, hml, hown, hts⟩ hM0 hcw ⟨CP_blind, va_recv hK hP hcl hj, fun U hU hW => ⟨rfl, PreU_at hK hP hD hBH hM hN hS hZ hU hW⟩⟩ rfl hn hl.1 hstk (by simpa using hcat) hd ⟨Nat.zero_le _, Nat.zero_le _⟩) hS (fun _ _ z => z) (fun _ z => z) (fun r0 _ t H1 locs1 ht hvm hpost hB1 hz1 hk1 hS1 => ?_)
  obtain ⟨hP2, hK2, hD2, hB2, hM2, -, -⟩ := hB1
  rw [ht] at hP2
  obtain rfl := hpost
  exact kk H1 locs1 ls ⟨hP2, hD2, hS1⟩ hM2 hl
theorem G_cUv (h : Cx X l0 E own cc ret nL rm) {x : MethodName} {owner : String} (hM0 : Met l0 y (wsA y cc2 maxL2 ret2) rm2 (CP E M (.ref q :: as)) (CQv E M') 0 0 (eA E)) (hcl : vwCl[ci]? = some (C, T, N)) (hci : ci < 9) (hy : owner ≠ "java/lang/invoke/MethodHandle" ∧ owner ≠ "java/lang/invoke/VarHandle" ∧ (parseMethodDescriptor x.desc).map (fun d => d.parameters.length) = some n) (hdec : ∀ (args : Array Value) (s : State), (∀ w ∈ lw_g, w.before args s = true) → NW s → va_Decl s ⟨owner, x.name, x.desc⟩) (hlink : Cond.methodLink own idx x ∈ lw_g) (hsame : Cond.sameMethod x.cls owner x.name x.desc ∈ lw_g) (hinst : Cond.instanceMethod y ∈ lw_g) (hsel : ∀ (args : Array Value) (s : State), (∀ w ∈ lw_g, w.before args s = true) → NW s → (Cond.selects C x y).before args s = true) (hini : Cond.initialized y.cls ∈ lw_g) (hcode : Cond.code y cc2 maxL2 ret2 ∈ lw_g)
    (hd : decode cc pc = .ok (.invokevirtual idx, 3)) (hq : isK E q ci) (hstk : stk = as.reverse ++ .ref q :: st) {pc' : Nat} (hp : pc + 3 = pc') (hroom : roomOk rm2 rm maxL2) (hn : as.length = n) (hcat : (st.map fun v => v.category).sum ≤ 8) (kk : G X E (0, 0) pc' L st M') : G X E (0, 0) pc L stk M := by
  subst hp
  obtain ⟨p, l, e, R, s, m, args, below, meth, c, Q, nl⟩ := X
  obtain ⟨hx, hb, hr, hml, hown, hts, hlk, hK, hB, rfl, rfl, rfl, hN, hZ⟩ := h
  intro H locs ls hW hM hl
  obtain ⟨hP, hD, hS⟩ := hW
  have hBH : eB E ≤ H.size := Nat.le_trans hB hS.1
  obtain ⟨j, hj⟩ := va_pl_get (X := []) (f := cel E M) hq.1
  rw [pl0, cel_obj hq.2 hci] at hj
  have hcw : va_CU R s args own C owner idx x y cc2 maxL2 ret2 (wsA y cc2 maxL2 ret2) rm2 0 0 n := by
    refine ⟨⟨hroom.1, hroom.2.1, hroom.2.2.1, hroom.2.2.2, pay_in hts (wsA_good hcode), List.mem_cons_self⟩, hts _ hcode, hts _ hini, ⟨hy.1, hy.2.1⟩, fun sig hg => ?_, hts _ hlink, hts _ hsame, hdec args s hts hN, hsel args s hts hN, hts _ hinst⟩
    have h2 := hy.2.2
    rw [hg] at h2
    exact (Option.some.inj h2).symm
  refine va_callv (va_runU (C := C) ⟨hx, hb, hml, hown, hts⟩ hM0 hcw ⟨CP_blind, va_recv hK hP hcl hj, fun U hU hW => ⟨rfl, PreU_at hK hP hD hBH hM hN hS hZ hU hW⟩⟩ rfl hn hl.1 hstk (by simpa using hcat) hd ⟨Nat.zero_le _, Nat.zero_le _⟩) hS (fun _ _ z => z) (fun _ z => z) (fun _ t H1 locs1 ht hvm hpost hB1 hz1 hk1 hS1 => ?_)
  obtain ⟨hP2, hK2, hD2, hB2, hM2, -, -⟩ := hB1
  rw [ht] at hP2
  exact kk H1 locs1 ls ⟨hP2, hD2, hS1⟩ hM2 hl
theorem G_mmax (h : Cx X l0 E own cc ret nL rm) {x y : Int32} (hlink : Cond.methodLink own idx Lib.Math.max.name ∈ lw_g) (hstat : Cond.static Lib.Math.max.name ∈ lw_g) (hini : Cond.initialized "java/lang/Math" ∈ lw_g) (hcode : Cond.code Lib.Math.max.name Lib.Math.max.code 2 (some .int) ∈ lw_g) (hd : decode cc pc = .ok (.invokestatic idx, 3)) (hfr : 1 ≤ rm.frames) (hlo : (st.map fun v => v.category).sum + 13 ≤ rm.locals) {pc' : Nat} (hp : pc + 3 = pc') (kk : G X E (0, 0) pc' L (.int (jmax x y) :: st) M) : G X E (0, 0) pc L (.int y :: .int x :: st) M := by
  subst hp
  obtain ⟨p, l, e, R, s, m, args, below, meth, c, Q, nl⟩ := X
  obtain ⟨hx, hb, hr, hml, hown, hts, hlk, hK, hB, rfl, rfl, rfl, hN, hZ⟩ := h
  intro H locs ls hW hM hl
  obtain ⟨hP, hD, hS⟩ := hW
  exact va_mmax hx hb (hml.trans hl.1.symm) hown (hts _ hlink) (hts _ hstat) (hts _ hini) (hts _ hcode) hfr hlo (Nat.zero_le _) (Nat.zero_le _) hd (kk H locs ls ⟨hP, hD, hS⟩ hM hl)
theorem G_mmin (h : Cx X l0 E own cc ret nL rm) {x y : Int32} (hlink : Cond.methodLink own idx Lib.Math.min.name ∈ lw_g) (hstat : Cond.static Lib.Math.min.name ∈ lw_g) (hini : Cond.initialized "java/lang/Math" ∈ lw_g) (hcode : Cond.code Lib.Math.min.name Lib.Math.min.code 2 (some .int) ∈ lw_g) (hd : decode cc pc = .ok (.invokestatic idx, 3)) (hfr : 1 ≤ rm.frames) (hlo : (st.map fun v => v.category).sum + 13 ≤ rm.locals) {pc' : Nat} (hp : pc + 3 = pc') (kk : G X E (0, 0) pc' L (.int (jmin x y) :: st) M) : G X E (0, 0) pc L (.int y :: .int x :: st) M := by
  subst hp
  obtain ⟨p, l, e, R, s, m, args, below, meth, c, Q, nl⟩ := X
  obtain ⟨hx, hb, hr, hml, hown, hts, hlk, hK, hB, rfl, rfl, rfl, hN, hZ⟩ := h
  intro H locs ls hW hM hl
  obtain ⟨hP, hD, hS⟩ := hW
  exact va_mmin hx hb (hml.trans hl.1.symm) hown (hts _ hlink) (hts _ hstat) (hts _ hini) (hts _ hcode) hfr hlo (Nat.zero_le _) (Nat.zero_le _) hd (kk H locs ls ⟨hP, hD, hS⟩ hM hl)
theorem G_alen (h : Cx X l0 E own cc ret nL rm) {a nn : Nat} {v : Int32} (hd : decode cc pc = .ok (.arraylength, 1)) (ha : isA E a 9 nn) (hv : Int32.ofNat nn = v) {pc' : Nat} (hp : pc + 1 = pc') (kk : G X E (0, 0) pc' L (.int v :: st) M) : G X E (0, 0) pc L (.ref a :: st) M := by
  subst hp
  obtain ⟨p, l, e, R, s, m, args, below, meth, c, Q, nl⟩ := X
  obtain ⟨hx, hb, hr, hml, hown, hts, hlk, hK, hB, rfl, rfl, rfl, hN, hZ⟩ := h
  intro H locs ls hW hM hl
  obtain ⟨hP, hD, hS⟩ := hW
  obtain ⟨j, hn⟩ := va_pl_get (X := []) (f := cel E M) ha.1
  rw [pl0, cel_9 ha.2.1] at hn
  exact va_alen hx hb hK hP j 0 hn rfl (by rw [show eN E a = nn from ha.2.2]; exact hv) hd (kk H locs ls ⟨hP, hD, hS⟩ hM hl)
theorem G_iushr (h : Cx X l0 E own cc ret nL rm) {x y : Int32} (hd : decode cc pc = .ok (.iushr, 1)) {pc' : Nat} (hp : pc + 1 = pc') (k : G X E (0, 0) pc' L (.int ((x.toUInt32 >>> (y.toUInt32 &&& Int32.toUInt32 31)).toInt32) :: st) M) : G X E (0, 0) pc L (.int y :: .int x :: st) M := by
  subst hp
  obtain ⟨p, l, e, R, s, m, args, below, meth, c, Q, nl⟩ := X
  obtain ⟨hx, hb, hr, hml, hown, hts, hlk, hK, hB, rfl, rfl, rfl, hN, hZ⟩ := h
  intro H locs ls hW hM hl
  obtain ⟨hP, hD, hS⟩ := hW
  exact lv_iushr hx hb hd rfl (k H locs ls ⟨hP, hD, hS⟩ hM hl)
theorem sel_priv {C : String} {x y z : MethodName} {s : State} {args : Array Value} (hs : (Cond.selects C x z).before args s = true) (hz : z.cls = y.cls) (hy : y.cls ≠ "java/lang/invoke/MethodHandle" ∧ y.cls ≠ "java/lang/invoke/VarHandle")
    (hpriv : (Cond.privateMethod y).before args s = true) (hinst : (Cond.instanceMethod y).before args s = true) : (Cond.selects C y y).before args s = true := by
  obtain ⟨c2, r2, m2, q1, q2, q3, q4, kP, hkP, hkPi⟩ := Cond.selects_spec hs
  obtain ⟨mk, methM, hnamed, hmethM, -, -⟩ := Cond.instanceMethod_spec hinst
  have hfound : s.methodFound? y.cls y.name y.desc = some mk := State.methodFound?_of_named hnamed hy
  have hcls : mk.cls = m2.cls := Option.some.inj ((findClass_of_methodNamed hnamed).symm.trans (by rw [← hz]; exact findClass_of_methodNamed q3))
  have hsel : selectMethod {} s.vm c2 mk = .method mk := selectMethod_private hmethM (Cond.privateMethod_at hpriv mk methM hnamed hmethM)
  simp only [Cond.before, Cond.holds, Cond.value, q1, hfound, hnamed, hsel, hcls, hkP]
  simp; exact hkPi
end RowsC
/-! how a transcript is written, and read beside the walk -/
def gd {α : Type} (j : Int32) (n : Nat) (x : Option α) : Option α := if j.toInt < 0 ∨ (n : Int) ≤ j.toInt then none else x
theorem gd_some {α : Type} {j : Int32} {n : Nat} {x : Option α} {r : α} (h : gd j n x = some r) : vp_in j n ∧ x = some r := by
  unfold gd at h
  by_cases c : j.toInt < 0 ∨ (n : Int) ≤ j.toInt
  · rw [if_pos c] at h; cases h
  · rw [if_neg c] at h
    exact ⟨vp_in_iff.mpr ⟨by omega, by omega⟩, h⟩
theorem gd_pos {α : Type} {j : Int32} {n : Nat} {x : Option α} (h : vp_in j n) : gd j n x = x := by
  unfold gd
  have := vp_in_iff.mp h
  exact if_neg (by omega)
def gz {α : Type} (d : Int32) (x : Option α) : Option α := if d = 0 then none else x
theorem gz_some {α : Type} {d : Int32} {x : Option α} {r : α} (h : gz d x = some r) : ¬ d = 0 ∧ x = some r := by
  unfold gz at h
  by_cases c : d = 0
  · rw [if_pos c] at h; cases h
  · rw [if_neg c] at h; exact ⟨c, h⟩
def gzl {α : Type} (d : Int64) (x : Option α) : Option α := if d = 0 then none else x
theorem gzl_some {α : Type} {d : Int64} {x : Option α} {r : α} (h : gzl d x = some r) : ¬ d = 0 ∧ x = some r := by
  unfold gzl at h
  by_cases c : d = 0
  · rw [if_pos c] at h; cases h
  · rw [if_neg c] at h; exact ⟨c, h⟩
def nm {α β : Type} (v : α) (F : α → β) : β := F v
theorem nm_eq {α β : Type} {v y : α} {F : α → β} {r : β} (e : y = v) (h : nm v F = r) : F y = r := by
  subst e; exact h
theorem bd {α β : Type} {o : Option α} {F : α → Option β} {r : β} (h : o.bind F = some r) : ∃ a, o = some a ∧ F a = some r := by
  cases o with
  | none => cases h
  | some a => exact ⟨a, rfl, h⟩
theorem it_t {α : Type} {c : Prop} [Decidable c] {a b r : α} (hc : c) (h : (if c then a else b) = r) : a = r := by rwa [if_pos hc] at h
theorem it_f {α : Type} {c : Prop} [Decidable c] {a b r : α} (hc : ¬ c) (h : (if c then a else b) = r) : b = r := by rwa [if_neg hc] at h
section RowsT
variable {X : Ctx} {E : Env1} {cs : Nat × Nat} {cc : ByteArray} {pc : Nat} {L : List (Option Value)} {st : List Value} {M M' M1 : Mem}
theorem G_nmi {x : Int32} (k : ∀ y, y = x → G X E cs pc L (.int y :: st) M) : G X E cs pc L (.int x :: st) M := k x rfl
theorem G_nml {x : Int64} (k : ∀ y, y = x → G X E cs pc L (.long y :: st) M) : G X E cs pc L (.long x :: st) M := k x rfl
theorem G_nmM (k : ∀ M1, M1 = M → G X E cs pc L st M1) : G X E cs pc L st M := k M rfl
theorem G_ifp {c : Prop} [Decidable c] {a b : Int32} (hc : c) (h : G X E cs pc L (.int (if c then a else b) :: st) M) : G X E cs pc L (.int a :: st) M := by rwa [if_pos hc] at h
theorem G_ifn {c : Prop} [Decidable c] {a b : Int32} (hc : ¬ c) (h : G X E cs pc L (.int (if c then a else b) :: st) M) : G X E cs pc L (.int b :: st) M := by rwa [if_neg hc] at h
theorem G_ifpl {c : Prop} [Decidable c] {a b : Int64} (hc : c) (h : G X E cs pc L (.long (if c then a else b) :: st) M) : G X E cs pc L (.long a :: st) M := by rwa [if_pos hc] at h
theorem G_ifnl {c : Prop} [Decidable c] {a b : Int64} (hc : ¬ c) (h : G X E cs pc L (.long (if c then a else b) :: st) M) : G X E cs pc L (.long b :: st) M := by rwa [if_neg hc] at h
theorem roI {r v : Int32} (hR : RetI X E cc r M) (hd : decode cc pc = .ok (.ireturn, 1)) (hf : some v = some r) : G X E (0, 0) pc L [.int v] M := by cases hf; exact hR _ _ hd
theorem toI {r v : Int32} (hR : RetI X E cc r M) (hd : decode cc pc = .ok (.ireturn, 1)) (hf : v = r) : G X E (0, 0) pc L [.int v] M := by cases hf; exact hR _ _ hd
theorem pwI {r v : Int32} (hR : RetI X E cc r M') (hd : decode cc pc = .ok (.ireturn, 1)) (hf : some (v, M1) = some (r, M')) : G X E (0, 0) pc L [.int v] M1 := by cases hf; exact hR _ _ hd
theorem twI {r v : Int32} (hR : RetI X E cc r M') (hd : decode cc pc = .ok (.ireturn, 1)) (hf : (v, M1) = (r, M')) : G X E (0, 0) pc L [.int v] M1 := by cases hf; exact hR _ _ hd
theorem roZ {r v : Int32} (hR : RetZ X E cc r M) (hd : decode cc pc = .ok (.ireturn, 1)) (hz : v = 0 ∨ v = 1) (hf : some v = some r) : G X E (0, 0) pc L [.int v] M := by cases hf; exact hR _ _ hd hz
theorem toZ {r v : Int32} (hR : RetZ X E cc r M) (hd : decode cc pc = .ok (.ireturn, 1)) (hz : v = 0 ∨ v = 1) (hf : v = r) : G X E (0, 0) pc L [.int v] M := by cases hf; exact hR _ _ hd hz
theorem pwZ {r v : Int32} (hR : RetZ X E cc r M') (hd : decode cc pc = .ok (.ireturn, 1)) (hz : v = 0 ∨ v = 1) (hf : some (v, M1) = some (r, M')) : G X E (0, 0) pc L [.int v] M1 := by cases hf; exact hR _ _ hd hz
theorem twZ {r v : Int32} (hR : RetZ X E cc r M') (hd : decode cc pc = .ok (.ireturn, 1)) (hz : v = 0 ∨ v = 1) (hf : (v, M1) = (r, M')) : G X E (0, 0) pc L [.int v] M1 := by cases hf; exact hR _ _ hd hz
theorem roL {r v : Int64} (hR : RetL X E cc r M) (hd : decode cc pc = .ok (.lreturn, 1)) (hf : some v = some r) : G X E (0, 0) pc L [.long v] M := by cases hf; exact hR _ _ hd
theorem toL {r v : Int64} (hR : RetL X E cc r M) (hd : decode cc pc = .ok (.lreturn, 1)) (hf : v = r) : G X E (0, 0) pc L [.long v] M := by cases hf; exact hR _ _ hd
theorem pwL {r v : Int64} (hR : RetL X E cc r M') (hd : decode cc pc = .ok (.lreturn, 1)) (hf : some (v, M1) = some (r, M')) : G X E (0, 0) pc L [.long v] M1 := by cases hf; exact hR _ _ hd
theorem twL {r v : Int64} (hR : RetL X E cc r M') (hd : decode cc pc = .ok (.lreturn, 1)) (hf : (v, M1) = (r, M')) : G X E (0, 0) pc L [.long v] M1 := by cases hf; exact hR _ _ hd
theorem pwV (hR : RetV X E cc M') (hd : decode cc pc = .ok (.return_, 1)) (hf : some M1 = some M') : G X E (0, 0) pc L [] M1 := by cases hf; exact hR _ _ hd
theorem twV (hR : RetV X E cc M') (hd : decode cc pc = .ok (.return_, 1)) (hf : M1 = M') : G X E (0, 0) pc L [] M1 := by cases hf; exact hR _ _ hd
end RowsT
theorem ite_01 {c : Prop} [Decidable c] {a b : Int32} (ha : a = 0 ∨ a = 1) (hb : b = 0 ∨ b = 1) : (if c then a else b) = 0 ∨ (if c then a else b) = 1 := by
  by_cases h : c
  · rw [if_pos h]; exact ha
  · rw [if_neg h]; exact hb
end CallsG
