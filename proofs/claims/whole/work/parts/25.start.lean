/-! THE CLAIM OUT OF ONE WALK OF THE LAW'S BODY. Your part is whole_start (and what it stands on); all else here is the same for every law, but numbers. -/
def R_law : String := "StairMannersLaw"
def lw_P (b : Addr) (xs : List Int32) (args : Array Value) (s : State) : Prop := args = #[.ref b] ∧ s.IntsAt b xs ∧ xs.length ≤ 320 ∧ (Jvm.Cond.and given_1 narrow_1).before args s = true
def lw_Q (_ : Array Value) (s : State) (o : Outcome) (t : State) : Prop := o = .returned (some (.int 1)) ∧ Framed s o t [] 600000 7302250
def lw_Z (below : List Frame) (a : Array Value) (s : State) : State → Prop := fun t => ∃ o, t.status = .running ∧ Ended t below o ∧ lw_Q a s o t
/-- the law's own end, with 1 on the stack, nothing written that was there before, its room as the claim has it -/
theorem lw_ret {p : Program} {l : Launch} {e : Env} {s : State} {m : MethodId} {below : List Frame} {meth : Method} {c : Code} {b : Nat} (hx : p.tables.exec = Jvm.exec) (hb : c.code = code) (hr : meth.sig.returnType = ret) (hlocks : meth.locks = false) {pc : Nat} {H : Heap} {ls : Array Slot} (hdg : decode code pc = .ok (.ireturn, 1)) : W p l e room_1 s m #[Value.ref b] below meth c H [] 600000 7302250 (lw_Z below #[Value.ref b] s) (F0 m pc ls [.int 1]) := by
  intro T hT X
  obtain ⟨fs, hret, hrun, hended, hW, hframe⟩ := X.leave (v := some (.int 1)) (hlocks := hlocks) (fun h => by rw [hr] at h; cases h)
  have hmeth' : T.vm.method? m = some meth := X.method'
  refine ⟨T.setFrames fs, ?_, .returned (some (.int 1)), hrun, hended, rfl, ⟨_, rfl⟩, hW, hframe⟩
  jvm_step X.here [X.here.top, hx, hb, hdg, hmeth', hr, ret, narrow_b1]
  (try refine ⟨rfl, ?_⟩); (try refine ⟨rfl, ?_⟩)
  first | (intro acts; rw [hret _ acts rfl rfl rfl]) | rw [hret _ _ rfl rfl rfl]
  exact Steps.refl _
/-- what holds at the law's entry: the machine, the code, the tables' words (any of lw_tbl by 'hts w (by decide +kernel)'), the script of L ints xs at the cell b, what the Statement gives of the start (any of its parts by flat_of_before) -/
def lw_At (p : Program) (s : State) (m : MethodId) (meth : Method) (c : Code) (b L : Nat) (xs : Nat → Int32) : Prop :=
  p.tables.exec = Jvm.exec ∧ c.code = code ∧ meth.sig.returnType = ret ∧ c.maxLocals = 4 ∧ s.vm.findClass R_law = some m.cls ∧ (∀ w ∈ lw_tbl, w.before #[Value.ref b] s = true) ∧ va_X b L xs s s.heap ∧ b < s.heap.size ∧ meth.locks = false ∧ (Jvm.Cond.and given_1 narrow_1).before #[Value.ref b] s = true
section Start
/-- what stands when the law has made both -/
def Start (E : Env1) (x m : Nat) (M : Mem) : Prop := WFt E ∧ isK E x 7 ∧ isK E m 8 ∧ Sm0 E M x ∧ Mo0 E M m ∧
  (∀ q k a, q ∈ eL E → eR E q k = some a → a ∈ eL E ∧ a ≠ x ∧ a ≠ m) ∧
  (∀ q k q' k' a, q ∈ eL E → q' ∈ eL E → eR E q k = some a → eR E q' k' = some a → q = q' ∧ k = k') ∧
  (∀ q, q ∈ eL E → eK E q = 13 → ∀ j, j < 8 → mr M q j = rr E q j)
theorem keep_gr {E1 E3 : Env1} {M1 M3 : Mem} {q kd n : Nat} (hq : q ∉ eL E1) (h3 : Gr (addO E1 q kd n) (clr M1 q) E3 M3 q) : ∀ x, x ∈ eL E1 → x ∈ eL E3 ∧ eK E3 x = eK E1 x ∧ eN E3 x = eN E1 x ∧ (∀ k, eR E3 x k = eR E1 x k) ∧ (∀ k, mi M3 x k = mi M1 x k) ∧ (∀ k, ml M3 x k = ml M1 x k) ∧ ∀ k, mr M3 x k = mr M1 x k := by
  obtain ⟨s3, o3, -⟩ := h3
  intro x hx
  have hne : x ≠ q := fun z => hq (z ▸ hx)
  obtain ⟨a1, a2, a3⟩ := o3 x (List.mem_append_left _ hx)
  obtain ⟨b1, b2, b3, b4, b5⟩ := a3 hne
  exact ⟨a1, b1.trans (va_up_ne _ _ hne), a2.trans (va_up_ne _ _ hne), fun j => (b2 j).trans (if_neg hne), fun j => (b3 j).trans (if_neg hne), fun j => (b4 j).trans (if_neg hne), fun j => b5 j⟩
theorem Sm0_same {E1 E2 : Env1} {M1 M2 : Mem} {x : Nat} (hW : WFt E1) (hx : isK E1 x 7) (hs : ∀ y, y ∈ eL E1 → (∀ k, eR E2 y k = eR E1 y k) ∧ (∀ k, mi M2 y k = mi M1 y k) ∧ ∀ k, ml M2 y k = ml M1 y k) (h : Sm0 E1 M1 x) : Sm0 E2 M2 x := by
  have rs : ∀ y, y ∈ eL E1 → ∀ k, rr E2 y k = rr E1 y k := by
    intro y hy k
    unfold rr
    rw [(hs y hy).1]
  have st : ∀ s, isK E1 s 4 → St0 E1 M1 s → St0 E2 M2 s := by
    intro s hk h
    obtain ⟨h1, h2, h3, h4, h5⟩ := h
    have ar : ∀ k n, fA E1 s k 9 n → ∀ j, mi M2 (rr E2 s k) j = mi M1 (rr E1 s k) j := fun k n hf j => by rw [rs s hk.1]; exact (hs _ hf.2.1).2.1 j
    exact ⟨fun j hj => (ar 0 8 (WFt_A hW hk (by simp [rqT])) j).trans (h1 j hj), fun j hj => (ar 1 6 (WFt_A hW hk (by simp [rqT])) j).trans (h2 j hj), fun j hj => (ar 2 6 (WFt_A hW hk (by simp [rqT])) j).trans (h3 j hj), ((hs s hk.1).2.1 3).trans h4, ((hs s hk.1).2.1 4).trans h5⟩
  have ho : ∀ s, isK E1 s 0 → Ho0 E1 M1 s → Ho0 E2 M2 s := by
    intro s hk h
    obtain ⟨h1, h2, h3, h4, h5, h6⟩ := h
    have rw_ : ∀ k, fK E1 s k 3 → Rw0 E1 M1 (rr E1 s k) → Rw0 E2 M2 (rr E2 s k) := fun k hf h => by rw [rs s hk.1]; exact ((hs _ hf.2.1).2.1 0).trans h
    refine ⟨((hs s hk.1).2.1 0).trans h1, ((hs s hk.1).2.1 5).trans h2, ?_, rw_ 6 (WFt_K hW hk (by simp [rqT])) h4, rw_ 7 (WFt_K hW hk (by simp [rqT])) h5, rw_ 8 (WFt_K hW hk (by simp [rqT])) h6⟩
    rw [rs s hk.1]
    exact st _ (WFt_K hW hk (by simp [rqT])).2 h3
  obtain ⟨h1, h2, h3, h4, h5, h6, h7, h8, h9⟩ := h
  have f3 : fA E1 x 3 11 2 := WFt_A hW hx (by simp [rqT])
  have f4 : fK E1 x 4 6 := WFt_K hW hx (by simp [rqT])
  refine ⟨?_, ?_, ?_, ?_, ((hs x hx.1).2.2 6).trans h5, ((hs x hx.1).2.2 7).trans h6, ((hs x hx.1).2.1 8).trans h7, ((hs x hx.1).2.1 9).trans h8, ((hs x hx.1).2.1 10).trans h9⟩
  · rw [rs x hx.1]
    exact ho _ (WFt_K hW hx (by simp [rqT])).2 h1
  · rw [rs x hx.1]
    exact ((hs _ f3.2.1).2.1 0).trans h2
  · rw [rs x hx.1]
    exact ((hs _ f3.2.1).2.1 1).trans h3
  · rw [rs x hx.1]
    exact ((hs _ f4.2.1).2.1 0).trans h4
theorem arrT_of {s : State} {args : Array Value} {ty : FieldType} (h : (Cond.arrayClass ty).before args s = true) : ∃ cA : ClassId, ArrOfT s cA ty ∧ s.vm.findClass ("[" ++ ty.toString) = some cA := by
  obtain ⟨c, k, comp, h1, h2, h3⟩ := Cond.arrayClass_spec h
  exact ⟨c, fun n z => ⟨fun k h => (by cases h), k, h2, comp, h3⟩, h1⟩
theorem arrO_of {s : State} {C : String} (h : va_AO C s) : ∃ cA : ClassId, ArrOfT s cA (.object C) ∧ va_RA s cA (.object C) := by
  obtain ⟨comp, c, k, h1, h2, h3, h4, h5⟩ := Cond.arrayOver_spec h
  exact ⟨c, fun n z => ⟨fun k h => (by cases h), k, h3, comp, h4⟩, k, comp, h3, h4, h1, h5⟩
def tmS (i : Nat) : Term := .string "StairManners$Text" (143 + 2 * i)
set_option maxRecDepth 100000 in
set_option maxHeartbeats 4000000 in
theorem str_start {s : State} {b : Nat} {A : Nat → Prop} (hs : ∀ c ∈ flatC (Jvm.Cond.and given_1 narrow_1), c.before #[Value.ref b] s = true) (hA : ∀ a : Nat, a < s.heap.size → ¬ A a) : ∃ adK adV : Nat → Nat, vk_S 6 sLen sByt adK adV A s s.heap ∧ ∀ i : Nat, i < 6 → (tmS i).eval #[Value.ref b] s none [] s = some (.ref (adK i)) := by
  refine vk_Sof (fun i hi => ?_) (fun i hi => ?_) (fun i hi => ?_) (fun i hi => ?_) (fun i hi => ?_) (fun i hi j hj => ?_) (fun i j hi hj hne => ?_) hA
  · rcases (show i = 0 ∨ i = 1 ∨ i = 2 ∨ i = 3 ∨ i = 4 ∨ i = 5 by omega) with rfl | rfl | rfl | rfl | rfl | rfl <;> decide
  · rcases (show i = 0 ∨ i = 1 ∨ i = 2 ∨ i = 3 ∨ i = 4 ∨ i = 5 by omega) with rfl | rfl | rfl | rfl | rfl | rfl <;> exact hs _ (by decide +kernel)
  · rcases (show i = 0 ∨ i = 1 ∨ i = 2 ∨ i = 3 ∨ i = 4 ∨ i = 5 by omega) with rfl | rfl | rfl | rfl | rfl | rfl <;> exact hs _ (by decide +kernel)
  · rcases (show i = 0 ∨ i = 1 ∨ i = 2 ∨ i = 3 ∨ i = 4 ∨ i = 5 by omega) with rfl | rfl | rfl | rfl | rfl | rfl <;> exact hs _ (by decide +kernel)
  · rcases (show i = 0 ∨ i = 1 ∨ i = 2 ∨ i = 3 ∨ i = 4 ∨ i = 5 by omega) with rfl | rfl | rfl | rfl | rfl | rfl <;> exact hs _ (by decide +kernel)
  · rcases (show i = 0 ∨ i = 1 ∨ i = 2 ∨ i = 3 ∨ i = 4 ∨ i = 5 by omega) with rfl | rfl | rfl | rfl | rfl | rfl
    · have hj : j < 5 := hj
      rcases (show j = 0 ∨ j = 1 ∨ j = 2 ∨ j = 3 ∨ j = 4 by omega) with rfl | rfl | rfl | rfl | rfl <;> exact hs _ (by decide +kernel)
    · have hj : j < 3 := hj
      rcases (show j = 0 ∨ j = 1 ∨ j = 2 by omega) with rfl | rfl | rfl <;> exact hs _ (by decide +kernel)
    · have hj : j < 5 := hj
      rcases (show j = 0 ∨ j = 1 ∨ j = 2 ∨ j = 3 ∨ j = 4 by omega) with rfl | rfl | rfl | rfl | rfl <;> exact hs _ (by decide +kernel)
    · have hj : j < 6 := hj
      rcases (show j = 0 ∨ j = 1 ∨ j = 2 ∨ j = 3 ∨ j = 4 ∨ j = 5 by omega) with rfl | rfl | rfl | rfl | rfl | rfl <;> exact hs _ (by decide +kernel)
    · have hj : j < 2 := hj
      rcases (show j = 0 ∨ j = 1 by omega) with rfl | rfl <;> exact hs _ (by decide +kernel)
    · have hj : j < 7 := hj
      rcases (show j = 0 ∨ j = 1 ∨ j = 2 ∨ j = 3 ∨ j = 4 ∨ j = 5 ∨ j = 6 by omega) with rfl | rfl | rfl | rfl | rfl | rfl | rfl <;> exact hs _ (by decide +kernel)
  · rcases (show i = 0 ∨ i = 1 ∨ i = 2 ∨ i = 3 ∨ i = 4 ∨ i = 5 by omega) with rfl | rfl | rfl | rfl | rfl | rfl
    · rcases (show j = 0 ∨ j = 1 ∨ j = 2 ∨ j = 3 ∨ j = 4 ∨ j = 5 by omega) with rfl | rfl | rfl | rfl | rfl | rfl
      · exact absurd rfl hne
      · exact Or.inl (hs _ (by decide +kernel))
      · exact Or.inl (hs _ (by decide +kernel))
      · exact Or.inl (hs _ (by decide +kernel))
      · exact Or.inl (hs _ (by decide +kernel))
      · exact Or.inl (hs _ (by decide +kernel))
    · rcases (show j = 0 ∨ j = 1 ∨ j = 2 ∨ j = 3 ∨ j = 4 ∨ j = 5 by omega) with rfl | rfl | rfl | rfl | rfl | rfl
      · exact Or.inr (hs _ (by decide +kernel))
      · exact absurd rfl hne
      · exact Or.inl (hs _ (by decide +kernel))
      · exact Or.inl (hs _ (by decide +kernel))
      · exact Or.inl (hs _ (by decide +kernel))
      · exact Or.inl (hs _ (by decide +kernel))
    · rcases (show j = 0 ∨ j = 1 ∨ j = 2 ∨ j = 3 ∨ j = 4 ∨ j = 5 by omega) with rfl | rfl | rfl | rfl | rfl | rfl
      · exact Or.inr (hs _ (by decide +kernel))
      · exact Or.inr (hs _ (by decide +kernel))
      · exact absurd rfl hne
      · exact Or.inl (hs _ (by decide +kernel))
      · exact Or.inl (hs _ (by decide +kernel))
      · exact Or.inl (hs _ (by decide +kernel))
    · rcases (show j = 0 ∨ j = 1 ∨ j = 2 ∨ j = 3 ∨ j = 4 ∨ j = 5 by omega) with rfl | rfl | rfl | rfl | rfl | rfl
      · exact Or.inr (hs _ (by decide +kernel))
      · exact Or.inr (hs _ (by decide +kernel))
      · exact Or.inr (hs _ (by decide +kernel))
      · exact absurd rfl hne
      · exact Or.inl (hs _ (by decide +kernel))
      · exact Or.inl (hs _ (by decide +kernel))
    · rcases (show j = 0 ∨ j = 1 ∨ j = 2 ∨ j = 3 ∨ j = 4 ∨ j = 5 by omega) with rfl | rfl | rfl | rfl | rfl | rfl
      · exact Or.inr (hs _ (by decide +kernel))
      · exact Or.inr (hs _ (by decide +kernel))
      · exact Or.inr (hs _ (by decide +kernel))
      · exact Or.inr (hs _ (by decide +kernel))
      · exact absurd rfl hne
      · exact Or.inl (hs _ (by decide +kernel))
    · rcases (show j = 0 ∨ j = 1 ∨ j = 2 ∨ j = 3 ∨ j = 4 ∨ j = 5 by omega) with rfl | rfl | rfl | rfl | rfl | rfl
      · exact Or.inr (hs _ (by decide +kernel))
      · exact Or.inr (hs _ (by decide +kernel))
      · exact Or.inr (hs _ (by decide +kernel))
      · exact Or.inr (hs _ (by decide +kernel))
      · exact Or.inr (hs _ (by decide +kernel))
      · exact absurd rfl hne
set_option maxRecDepth 100000 in
set_option maxHeartbeats 8000000 in
theorem start_open {I : Env1 → Nat → Nat → Mem → Prop} (hinit : ∀ E x m M, Start E x m M → I E x m M) (hall : ∀ E x m, AlAll I E x m) {p : Program} {e : Env} {s : State} {m : MethodId} {below : List Frame} {meth : Method} {c : Code} (l : Launch) {b L : Nat} {xs : Nat → Int32} (hL : L ≤ 320) (C0 : lw_At p s m meth c b L xs) : W p l e room_1 s m #[Value.ref b] below meth c s.heap [] 0 0 (lw_Z below #[Value.ref b] s) (entryFrame m ([Value.ref b] : List Value).toArray 4) := by
  obtain ⟨hx, hb, hr, hml, hown, hts, hX, hbl, hlocks, hgv⟩ := id C0
  have hsf := flat_of_before _ hgv
  have hA0 : ∀ a : Nat, a < s.heap.size → ¬ (fun q : Nat => s.heap.size ≤ q) a := fun a h => Nat.not_le.mpr h
  obtain ⟨adK, adV, hvs, hve⟩ := str_start (A := fun q : Nat => s.heap.size ≤ q) hsf hA0
  obtain ⟨c0, iS0, hKn0⟩ := u_known (C := RX0) (T := TX0) (N := 11) (n := 11) hts inX0 (hts _ (List.mem_of_getElem? (i := 100) (by decide +kernel)))
  obtain ⟨c1, iS1, hKn1⟩ := u_known (C := RX2) (T := TX2) (N := 0) (n := 0) hts inX2 (hts _ (List.mem_of_getElem? (i := 173) (by decide +kernel)))
  obtain ⟨c2, iS2, hKn2⟩ := u_known (C := RX3) (T := TX3) (N := 5) (n := 5) hts inX3 (hts _ (List.mem_of_getElem? (i := 267) (by decide +kernel)))
  obtain ⟨c3, iS3, hKn3⟩ := u_known (C := RX4) (T := TX4) (N := 2) (n := 2) hts inX4 (hts _ (List.mem_of_getElem? (i := 147) (by decide +kernel)))
  obtain ⟨c4, iS4, hKn4⟩ := u_known (C := RX5) (T := TX5) (N := 5) (n := 5) hts inX5 (hts _ (List.mem_of_getElem? (i := 106) (by decide +kernel)))
  obtain ⟨c5, iS5, hKn5⟩ := u_known (C := RX6) (T := TX6) (N := 0) (n := 0) hts inX6 (hts _ (List.mem_of_getElem? (i := 163) (by decide +kernel)))
  obtain ⟨c6, iS6, hKn6⟩ := u_known (C := RX7) (T := TX7) (N := 10) (n := 10) hts inX7 (hts _ (List.mem_of_getElem? (i := 228) (by decide +kernel)))
  obtain ⟨c7, iS7, hKn7⟩ := u_known (C := RX8) (T := TX8) (N := 11) (n := 11) hts inX8 (hts _ (List.mem_of_getElem? (i := 92) (by decide +kernel)))
  obtain ⟨c8, iS8, hKn8⟩ := u_known (C := RX9) (T := TX9) (N := 30) (n := 30) hts inX9 (hts _ (List.mem_of_getElem? (i := 922) (by decide +kernel)))
  obtain ⟨y9, hy9, hz9⟩ := arrT_of (ty := .int) (hts _ (List.mem_of_getElem? (i := 144) (by decide +kernel)))
  obtain ⟨y10, hy10, hz10⟩ := arrT_of (ty := .long) (hts _ (List.mem_of_getElem? (i := 1022) (by decide +kernel)))
  obtain ⟨y11, hy11, hz11⟩ := arrT_of (ty := .boolean) (hts _ (List.mem_of_getElem? (i := 265) (by decide +kernel)))
  have hao1 : va_AO "StairManners$House" s := va_AO.of (hts _ (List.mem_of_getElem? (i := 226) (by decide +kernel)))
  have hao2 : va_AO "StairManners$Stand" s := va_AO.of (hts _ (List.mem_of_getElem? (i := 145) (by decide +kernel)))
  obtain ⟨y12, hy12, hz12⟩ := arrO_of hao1
  obtain ⟨y13, hy13, hz13⟩ := arrO_of hao2
  obtain ⟨E0, hE0⟩ : ∃ E : Env1, E = (([] : List Nat), (fun _ => 0), (fun _ => 0), (fun _ _ => none), s.heap.size, ((fun k => if k = 0 then c0 else if k = 1 then c1 else if k = 2 then c2 else if k = 3 then c3 else if k = 4 then c4 else if k = 5 then c5 else if k = 6 then c6 else if k = 7 then c7 else c8), (fun k => if k = 0 then iS0 else if k = 1 then iS1 else if k = 2 then iS2 else if k = 3 then iS3 else if k = 4 then iS4 else if k = 5 then iS5 else if k = 6 then iS6 else if k = 7 then iS7 else iS8)), (fun k => if k = 9 then y9 else if k = 10 then y10 else if k = 11 then y11 else if k = 12 then y12 else y13), adK, adV) := ⟨_, rfl⟩
  have hL0 : eL E0 = [] := by rw [hE0]; rfl
  have hB0 : eB E0 = s.heap.size := by rw [hE0]; rfl
  have heA : eA E0 = fun q : Nat => s.heap.size ≤ q := by unfold eA; rw [hB0]
  have hKc : va_K (eD E0) vwCl (tysE E0) s := by
    rw [hE0]
    refine ⟨fun k q hq => ?_, fun k q hq => ?_⟩
    · match k, hq with
      | 0, hq => cases hq; exact hKn0
      | 1, hq => cases hq; exact hKn1
      | 2, hq => cases hq; exact hKn2
      | 3, hq => cases hq; exact hKn3
      | 4, hq => cases hq; exact hKn4
      | 5, hq => cases hq; exact hKn5
      | 6, hq => cases hq; exact hKn6
      | 7, hq => cases hq; exact hKn7
      | 8, hq => cases hq; exact hKn8
      | k + 9, hq => simp [vwCl] at hq
    · match k, hq with
      | 0, hq => cases hq; exact ⟨hy9, hz9⟩
      | 1, hq => cases hq; exact ⟨hy10, hz10⟩
      | 2, hq => cases hq; exact ⟨hy11, hz11⟩
      | 3, hq => cases hq; exact ⟨hy12, hz12⟩
      | 4, hq => cases hq; exact ⟨hy13, hz13⟩
      | k + 5, hq => simp [tysE] at hq
  have hNW : NW s := by
    refine ⟨fun q hq => ?_, fun y hy => ?_, fun y hy => ?_, fun C hC => ?_⟩
    · simp only [nwM, List.mem_cons, List.not_mem_nil, or_false] at hq
      rcases hq with rfl | rfl | rfl | rfl | rfl | rfl | rfl | rfl | rfl
      · exact va_Nw.of rfl (hts _ (List.mem_of_getElem? (i := 164) (by decide +kernel)))
      · exact va_Nw.of rfl (hts _ (List.mem_of_getElem? (i := 174) (by decide +kernel)))
      · exact va_Nw.of rfl (hts _ (List.mem_of_getElem? (i := 350) (by decide +kernel)))
      · exact va_Nw.of rfl (hts _ (List.mem_of_getElem? (i := 177) (by decide +kernel)))
      · exact va_Nw.of rfl (hts _ (List.mem_of_getElem? (i := 710) (by decide +kernel)))
      · exact va_Nw.of rfl (hts _ (List.mem_of_getElem? (i := 743) (by decide +kernel)))
      · exact va_Nw.of rfl (hts _ (List.mem_of_getElem? (i := 490) (by decide +kernel)))
      · exact va_Nw.of rfl (hts _ (List.mem_of_getElem? (i := 167) (by decide +kernel)))
      · exact va_Nw.of rfl (hts _ (List.mem_of_getElem? (i := 359) (by decide +kernel)))
    · simp only [nwP, List.mem_cons, List.not_mem_nil, or_false] at hy
      rcases hy with rfl | rfl
      · exact va_Nw.of rfl (hts _ (List.mem_of_getElem? (i := 813) (by decide +kernel)))
      · exact va_Nw.of rfl (hts _ (List.mem_of_getElem? (i := 780) (by decide +kernel)))
    · simp only [nwD, List.mem_cons, List.not_mem_nil, or_false] at hy
      rcases hy with rfl | rfl | rfl | rfl | rfl
      · exact va_Nw.of rfl (hts _ (List.mem_of_getElem? (i := 785) (by decide +kernel)))
      · exact va_Nw.of rfl (hts _ (List.mem_of_getElem? (i := 801) (by decide +kernel)))
      · exact va_Nw.of rfl (hts _ (List.mem_of_getElem? (i := 775) (by decide +kernel)))
      · exact va_Nw.of rfl (hts _ (List.mem_of_getElem? (i := 808) (by decide +kernel)))
      · exact va_Nw.of rfl (hts _ (List.mem_of_getElem? (i := 795) (by decide +kernel)))
    · simp only [nwA, List.mem_cons, List.not_mem_nil, or_false] at hC
      rcases hC with rfl | rfl
      · exact hao1
      · exact hao2
  have hSW : SW E0 s s.heap := by
    unfold SW
    rw [heA]
    rw [hE0]
    refine ⟨hvs, fun i hi => ?_, ?_, ?_⟩
    · refine vk_R.of (A := #[Value.ref b]) ?_ (hve i hi)
      rcases (show i = 0 ∨ i = 1 ∨ i = 2 ∨ i = 3 ∨ i = 4 ∨ i = 5 by omega) with rfl | rfl | rfl | rfl | rfl | rfl
      · exact (hts _ (List.mem_of_getElem? (i := 392) (by decide +kernel)))
      · exact (hts _ (List.mem_of_getElem? (i := 393) (by decide +kernel)))
      · exact (hts _ (List.mem_of_getElem? (i := 394) (by decide +kernel)))
      · exact (hts _ (List.mem_of_getElem? (i := 395) (by decide +kernel)))
      · exact (hts _ (List.mem_of_getElem? (i := 396) (by decide +kernel)))
      · exact (hts _ (List.mem_of_getElem? (i := 397) (by decide +kernel)))
    · exact va_Zof (hts _ (List.mem_of_getElem? (i := 411) (by decide +kernel))) (hts _ (List.mem_of_getElem? (i := 85) (by decide +kernel))) (va_eqt (hsf _ (by decide +kernel))) hA0
    · rcases va_Zqof (C := "jdk/internal/util/Preconditions") (n := "SIOOBE_FORMATTER") (d := "Ljava/util/function/BiFunction;") (hts _ (List.mem_of_getElem? (i := 427) (by decide +kernel))) (hts _ (List.mem_of_getElem? (i := 87) (by decide +kernel))) (hsf _ (by decide +kernel)) hA0 with hq | ⟨t, hq⟩
      · exact ⟨_, Or.inl rfl, hq⟩
      · exact ⟨_, Or.inr ⟨t, rfl⟩, hq⟩
  have hC0 : Cx (p, l, e, room_1, s, m, #[Value.ref b], below, meth, c, lw_Z below #[Value.ref b] s, 4) l E0 RL cL_law (some .boolean) 4 room_1 := ⟨hx, hb, hr, hml, hown, fun w hw => hts w (List.mem_filter.mp hw).1, hlocks, hKc, Nat.le_of_eq hB0, rfl, rfl, rfl, hNW, hSW⟩
  have hP0 : va_P (eD E0) vwCl (va_pl (eL E0) (cel E0 (fun _ _ => 0, fun _ _ => 0, fun _ _ => 0))) s.heap := by rw [hL0]; exact fun k q h => by simp [va_pl] at h
  have hD0 : va_D (eA E0) (va_pl (eL E0) (cel E0 (fun _ _ => 0, fun _ _ => 0, fun _ _ => 0))) := by rw [hL0]; exact ⟨fun i j p q h => by simp [va_pl] at h, fun k q h => by simp [va_pl] at h⟩
  have hWM0 : WM E0 (fun _ _ => 0, fun _ _ => 0, fun _ _ => 0) := fun q hq => by have := hq.1; rw [hL0] at this; cases this
  have hWF0 : WFt E0 := fun q hq => by rw [hL0] at hq; cases hq
  rw [lg_entry_eq]
  have body : G (p, l, e, room_1, s, m, #[Value.ref b], below, meth, c, lw_Z below #[Value.ref b] s, 4) E0 (0, 0) 0 [some (.ref b), none, none, none] [] (fun _ _ => 0, fun _ _ => 0, fun _ _ => 0) := ?_
  · exact body s.heap [] _ ⟨hP0, hD0, va_S.rf⟩ hWM0 (lvO_entry [.ref b] (Nat.le_of_ble_eq_true rfl) rfl)
  have hLX0 : LX (p, l, e, room_1, s, m, #[Value.ref b], below, meth, c, lw_Z below #[Value.ref b] s, 4) E0 b L xs := ⟨hX, hbl, by rw [heA]; exact Nat.not_le.mpr hbl⟩
  have hendX : ∀ (E : Env1) (L : List (Option Value)) (M : Mem), Same E0 E → G (p, l, e, room_1, s, m, #[Value.ref b], below, meth, c, lw_Z below #[Value.ref b] s, 4) E (220, 3645) 1286 L [.int 1] M := by
    intro E L M hsm H locs ls hW hM hl
    obtain ⟨hP, hD, hS⟩ := hW
    rw [eA_same hsm, heA] at hS
    refine va_forget (fun q hq => hS.2.2 q hq) ?_
    refine W.widen (k := 600000) (n := 7302250) (Nat.le_of_ble_eq_true rfl) (Nat.le_of_ble_eq_true rfl) ?_
    exact lw_ret hx hb hr hlocks dL_law_1286
  clear hgv hsf hts hP0 hD0
  generalize hXg : (p, l, e, room_1, s, m, #[Value.ref b], below, meth, c, lw_Z below #[Value.ref b] s, 4) = X at hC0 hLX0 hendX ⊢
  have h := hC0
  refine G_new h (C := RX8) (T := TX8) (N := 11) (ci := 7) rfl (by decide) inG8 tyX8 tyX8_ok (by intro j hj; (rcases (show j = 0 ∨ j = 1 ∨ j = 2 ∨ j = 3 ∨ j = 4 ∨ j = 5 ∨ j = 6 ∨ j = 7 ∨ j = 8 ∨ j = 9 ∨ j = 10 by omega) with rfl | rfl | rfl | rfl | rfl | rfl | rfl | rfl | rfl | rfl | rfl) <;> rfl) (lwg (List.mem_of_getElem? (i := 91) (by decide +kernel)) rfl) (lwg (List.mem_of_getElem? (i := 92) (by decide +kernel)) rfl) (lwg (List.mem_of_getElem? (i := 75) (by decide +kernel)) rfl) (Nat.le_of_ble_eq_true rfl) (Nat.le_of_ble_eq_true rfl) dL_law_0 rfl (fun x hx hbx => ?_)
  have h := Cx_same (E' := addO E0 x (20 + 7) 0) ⟨rfl, rfl, rfl, rfl, rfl⟩ h
  refine G_dup h dL_law_3 rfl rfl ?_
  have hW1 : WFt (addO E0 x (20 + 7) 0) := WFt_addO hx (Or.inr (Or.inr (Or.inr (by omega)))) hWF0
  refine G_cI h (ok_init_X8 l hW1 ⟨List.mem_append_right _ (List.mem_singleton.mpr rfl), va_up_self _ _ _⟩ (fun j => if_pos rfl) (fun j => if_pos rfl) (fun j => if_pos rfl)) rfl ⟨by decide +kernel, by decide +kernel, by decide +kernel⟩ (lwg (List.mem_of_getElem? (i := 93) (by decide +kernel)) rfl) (lwg (List.mem_of_getElem? (i := 94) (by decide +kernel)) rfl) (lwg (List.mem_of_getElem? (i := 75) (by decide +kernel)) rfl) (lwg (List.mem_of_getElem? (i := 95) (by decide +kernel)) rfl) dL_law_4 rfl ⟨rfl, rfl, (Nat.le_of_ble_eq_true rfl), (Nat.le_of_ble_eq_true rfl)⟩ (Nat.le_of_ble_eq_true rfl) ⟨(Nat.le_of_ble_eq_true rfl), (Nat.le_of_ble_eq_true rfl)⟩ (fun E2 M2 hsm2 hpo => ?_)
  obtain ⟨hg2, hk2, hi2⟩ := hpo
  have h := Cx_same hsm2 h
  have hw2 : WFt E2 := hg2.2.2.2.2.1 hW1
  refine G_astore_n h dL_law_7 (i := 1) rfl (by decide) (L' := [some (.ref b), some (.ref x), none, none]) rfl rfl ?_
  refine G_new h (C := RX9) (T := TX9) (N := 30) (ci := 8) rfl (by decide) inG9 tyX9 tyX9_ok (by intro j hj; (rcases (show j = 0 ∨ j = 1 ∨ j = 2 ∨ j = 3 ∨ j = 4 ∨ j = 5 ∨ j = 6 ∨ j = 7 ∨ j = 8 ∨ j = 9 ∨ j = 10 ∨ j = 11 ∨ j = 12 ∨ j = 13 ∨ j = 14 ∨ j = 15 ∨ j = 16 ∨ j = 17 ∨ j = 18 ∨ j = 19 ∨ j = 20 ∨ j = 21 ∨ j = 22 ∨ j = 23 ∨ j = 24 ∨ j = 25 ∨ j = 26 ∨ j = 27 ∨ j = 28 ∨ j = 29 by omega) with rfl | rfl | rfl | rfl | rfl | rfl | rfl | rfl | rfl | rfl | rfl | rfl | rfl | rfl | rfl | rfl | rfl | rfl | rfl | rfl | rfl | rfl | rfl | rfl | rfl | rfl | rfl | rfl | rfl | rfl) <;> rfl) (lwg (List.mem_of_getElem? (i := 921) (by decide +kernel)) rfl) (lwg (List.mem_of_getElem? (i := 922) (by decide +kernel)) rfl) (lwg (List.mem_of_getElem? (i := 84) (by decide +kernel)) rfl) (Nat.le_of_ble_eq_true rfl) (Nat.le_of_ble_eq_true rfl) dL_law_8 rfl (fun m2 hm2 hbm2 => ?_)
  have h := Cx_same (E' := addO E2 m2 (20 + 8) 0) ⟨rfl, rfl, rfl, rfl, rfl⟩ h
  refine G_dup h dL_law_11 rfl rfl ?_
  have hW3 : WFt (addO E2 m2 (20 + 8) 0) := WFt_addO hm2 (Or.inr (Or.inr (Or.inr (by omega)))) hw2
  refine G_cI h (ok_init_X9 l hW3 ⟨List.mem_append_right _ (List.mem_singleton.mpr rfl), va_up_self _ _ _⟩ (fun j => if_pos rfl) (fun j => if_pos rfl) (fun j => if_pos rfl)) rfl ⟨by decide +kernel, by decide +kernel, by decide +kernel⟩ (lwg (List.mem_of_getElem? (i := 923) (by decide +kernel)) rfl) (lwg (List.mem_of_getElem? (i := 924) (by decide +kernel)) rfl) (lwg (List.mem_of_getElem? (i := 84) (by decide +kernel)) rfl) (lwg (List.mem_of_getElem? (i := 925) (by decide +kernel)) rfl) dL_law_12 rfl ⟨rfl, rfl, (Nat.le_of_ble_eq_true rfl), (Nat.le_of_ble_eq_true rfl)⟩ (Nat.le_of_ble_eq_true rfl) ⟨(Nat.le_of_ble_eq_true rfl), (Nat.le_of_ble_eq_true rfl)⟩ (fun E4 M4 hsm4 hpo => ?_)
  obtain ⟨hg4, hk4, hi4⟩ := hpo
  have h := Cx_same hsm4 h
  have hw4 : WFt E4 := hg4.2.2.2.2.1 hW3
  refine G_astore_n h dL_law_15 (i := 2) rfl (by decide) (L' := [some (.ref b), some (.ref x), some (.ref m2), none]) rfl rfl ?_
  refine G_iconst h dL_law_16 (v := 0) (by decide) rfl ?_
  refine G_istore_n h dL_law_17 (i := 3) rfl (by decide) (L' := [some (.ref b), some (.ref x), some (.ref m2), some (.int 0)]) rfl rfl ?_
  have keep := keep_gr hm2 hg4
  have hsE : Same E0 E4 := (show Same E0 (addO E0 x (20 + 7) 0) from ⟨rfl, rfl, rfl, rfl, rfl⟩).tr (hsm2.tr ((show Same E2 (addO E2 m2 (20 + 8) 0) from ⟨rfl, rfl, rfl, rfl, rfl⟩).tr hsm4))
  have hk7 : isK E4 x 7 := ⟨(keep x hk2.1).1, (keep x hk2.1).2.1.trans hk2.2⟩
  have l1 : ∀ q, q ∉ eL (addO E0 x (20 + 7) 0) ∨ q = x := by
    intro q
    by_cases z : q = x
    · exact Or.inr z
    · left; intro y
      rcases List.mem_append.mp y with y | y
      · rw [hL0] at y; cases y
      · exact z (List.mem_singleton.mp y)
  have l3 : ∀ q, q ∉ eL E2 → q ∉ eL (addO E2 m2 (20 + 8) 0) ∨ q = m2 := by
    intro q hq
    by_cases z : q = m2
    · exact Or.inr z
    · left; intro y
      rcases List.mem_append.mp y with y | y
      · exact hq y
      · exact z (List.mem_singleton.mp y)
  have x1 : x ∈ eL (addO E0 x (20 + 7) 0) := List.mem_append_right _ (List.mem_singleton.mpr rfl)
  have m3 : m2 ∈ eL (addO E2 m2 (20 + 8) 0) := List.mem_append_right _ (List.mem_singleton.mpr rfl)
  have up3 : ∀ q, q ∈ eL E2 → q ∈ eL (addO E2 m2 (20 + 8) 0) := fun q hq => List.mem_append_left _ hq
  have hSt : Start E4 x m2 M4 := by
    refine ⟨hw4, hk7, hk4, Sm0_same hw2 hk2 (fun y hy => ⟨(keep y hy).2.2.2.1, (keep y hy).2.2.2.2.1, (keep y hy).2.2.2.2.2.1⟩) hi2, hi4, fun q k a hq hr => ?_, fun q k q' k' a hq hq' hr hr' => ?_, fun q hq h13 j hj => ?_⟩
    · by_cases z : q ∈ eL E2
      · rw [(keep q z).2.2.2.1] at hr
        obtain ⟨t1, t2⟩ := hg2.2.2.1 q k a z (l1 q) hr
        exact ⟨(keep a t1).1, fun w => t2 (by rw [w]; exact x1), fun w => hm2 (by rw [← w]; exact t1)⟩
      · obtain ⟨t1, t2⟩ := hg4.2.2.1 q k a hq (l3 q z) hr
        exact ⟨t1, fun w => t2 (by rw [w]; exact up3 _ hk2.1), fun w => t2 (by rw [w]; exact m3)⟩
    · by_cases z : q ∈ eL E2 <;> by_cases z' : q' ∈ eL E2
      · rw [(keep q z).2.2.2.1] at hr
        rw [(keep q' z').2.2.2.1] at hr'
        exact hg2.2.2.2.1 q k q' k' a z z' (l1 q) (l1 q') hr hr'
      · rw [(keep q z).2.2.2.1] at hr
        exact absurd (up3 _ (hg2.2.2.1 q k a z (l1 q) hr).1) (hg4.2.2.1 q' k' a hq' (l3 q' z') hr').2
      · rw [(keep q' z').2.2.2.1] at hr'
        exact absurd (up3 _ (hg2.2.2.1 q' k' a z' (l1 q') hr').1) (hg4.2.2.1 q k a hq (l3 q z) hr).2
      · exact hg4.2.2.2.1 q k q' k' a hq hq' (l3 q z) (l3 q' z') hr hr'
    · by_cases z : q ∈ eL E2
      · obtain ⟨-, e2, -, e4, -, -, e7⟩ := keep q z
        have er : rr E4 q j = rr E2 q j := by unfold rr; rw [e4]
        rw [e7, er]
        rcases l1 q with y | y
        · exact hg2.2.2.2.2.2 q z y (e2.symm.trans h13) j hj
        · rw [y] at e2 h13; rw [e2, hk2.2] at h13; exact absurd h13 (by decide)
      · rcases l3 q z with y | y
        · exact hg4.2.2.2.2.2 q hq y h13 j hj
        · rw [y, hk4.2] at h13; exact absurd h13 (by decide)
  have hLX : LX X E4 b L xs := by subst hXg; exact ⟨hLX0.1, hLX0.2.1, by rw [eA_same hsE]; exact hLX0.2.2⟩
  exact law_loop h hLX hL (WF_of hw4) hk7 hk4 (hall E4 x m2) (fun L M => hendX E4 L M hsE) (L + 1) 0 M4 (by omega) (Nat.zero_le _) (hinit E4 x m2 M4 hSt)
end Start
