/-! the frame: a flat memory M (ints, longs, references that change), the still part E of the world (addresses, kinds, lengths, references that stay), and the judgement G over the kit's W -/
section Frame
/-- the words that every method may carry -/
def lw_g : List Cond := lw_tbl.filter goodWord
theorem lwg {w : Cond} (h : w ∈ lw_tbl) (h2 : goodWord w = true) : w ∈ lw_g := List.mem_filter.mpr ⟨h, h2⟩
set_option maxRecDepth 100000 in
theorem inG0 : ∀ w ∈ wsX00, w ∈ lw_g := fun w h => lwg (inX0 w h) (List.all_eq_true.mp (show (wsX00).all goodWord = true by decide +kernel) w h)
set_option maxRecDepth 100000 in
theorem inG1 : ∀ w ∈ wsX10, w ∈ lw_g := fun w h => lwg (inX1 w h) (List.all_eq_true.mp (show (wsX10).all goodWord = true by decide +kernel) w h)
set_option maxRecDepth 100000 in
theorem inG2 : ∀ w ∈ wsX20, w ∈ lw_g := fun w h => lwg (inX2 w h) (List.all_eq_true.mp (show (wsX20).all goodWord = true by decide +kernel) w h)
set_option maxRecDepth 100000 in
theorem inG3 : ∀ w ∈ wsX30, w ∈ lw_g := fun w h => lwg (inX3 w h) (List.all_eq_true.mp (show (wsX30).all goodWord = true by decide +kernel) w h)
set_option maxRecDepth 100000 in
theorem inG4 : ∀ w ∈ wsX40, w ∈ lw_g := fun w h => lwg (inX4 w h) (List.all_eq_true.mp (show (wsX40).all goodWord = true by decide +kernel) w h)
set_option maxRecDepth 100000 in
theorem inG5 : ∀ w ∈ wsX50, w ∈ lw_g := fun w h => lwg (inX5 w h) (List.all_eq_true.mp (show (wsX50).all goodWord = true by decide +kernel) w h)
set_option maxRecDepth 100000 in
theorem inG6 : ∀ w ∈ wsX60, w ∈ lw_g := fun w h => lwg (inX6 w h) (List.all_eq_true.mp (show (wsX60).all goodWord = true by decide +kernel) w h)
set_option maxRecDepth 100000 in
theorem inG7 : ∀ w ∈ wsX70, w ∈ lw_g := fun w h => lwg (inX7 w h) (List.all_eq_true.mp (show (wsX70).all goodWord = true by decide +kernel) w h)
set_option maxRecDepth 100000 in
theorem inG8 : ∀ w ∈ wsX80, w ∈ lw_g := fun w h => lwg (inX8 w h) (List.all_eq_true.mp (show (wsX80).all goodWord = true by decide +kernel) w h)
set_option maxRecDepth 100000 in
theorem inG9 : ∀ w ∈ wsX90, w ∈ lw_g := fun w h => lwg (inX9 w h) (List.all_eq_true.mp (show (wsX90).all goodWord = true by decide +kernel) w h)
abbrev Mem : Type := (Nat → Nat → Int32) × (Nat → Nat → Int64) × (Nat → Nat → Nat)
def mi (M : Mem) (q k : Nat) : Int32 := M.1 q k
def ml (M : Mem) (q k : Nat) : Int64 := M.2.1 q k
def mr (M : Mem) (q k : Nat) : Nat := M.2.2 q k
def wi (M : Mem) (a k : Nat) (v : Int32) : Mem := (fun q j => if q = a ∧ j = k then v else M.1 q j, M.2.1, M.2.2)
def wl (M : Mem) (a k : Nat) (v : Int64) : Mem := (M.1, fun q j => if q = a ∧ j = k then v else M.2.1 q j, M.2.2)
def wr (M : Mem) (a k : Nat) (v : Nat) : Mem := (M.1, M.2.1, fun q j => if q = a ∧ j = k then v else M.2.2 q j)
theorem mi_wi (M : Mem) (a k : Nat) (v : Int32) (q j : Nat) : mi (wi M a k v) q j = if q = a ∧ j = k then v else mi M q j := rfl
theorem mi_wl (M : Mem) (a k : Nat) (v : Int64) (q j : Nat) : mi (wl M a k v) q j = mi M q j := rfl
theorem mi_wr (M : Mem) (a k : Nat) (v : Nat) (q j : Nat) : mi (wr M a k v) q j = mi M q j := rfl
theorem ml_wi (M : Mem) (a k : Nat) (v : Int32) (q j : Nat) : ml (wi M a k v) q j = ml M q j := rfl
theorem ml_wl (M : Mem) (a k : Nat) (v : Int64) (q j : Nat) : ml (wl M a k v) q j = if q = a ∧ j = k then v else ml M q j := rfl
theorem ml_wr (M : Mem) (a k : Nat) (v : Nat) (q j : Nat) : ml (wr M a k v) q j = ml M q j := rfl
theorem mr_wi (M : Mem) (a k : Nat) (v : Int32) (q j : Nat) : mr (wi M a k v) q j = mr M q j := rfl
theorem mr_wl (M : Mem) (a k : Nat) (v : Int64) (q j : Nat) : mr (wl M a k v) q j = mr M q j := rfl
theorem mr_wr (M : Mem) (a k : Nat) (v : Nat) (q j : Nat) : mr (wr M a k v) q j = if q = a ∧ j = k then v else mr M q j := rfl
/-- addresses, kinds, lengths, still references, the first address of ours, the tables' numbers -/
abbrev Env1 : Type := List Nat × (Nat → Nat) × (Nat → Nat) × (Nat → Nat → Option Nat) × Nat × va_G × (Nat → ClassId) × (Nat → Nat) × (Nat → Nat)
def eL (E : Env1) : List Nat := E.1
def eK (E : Env1) : Nat → Nat := E.2.1
def eN (E : Env1) : Nat → Nat := E.2.2.1
def eR (E : Env1) : Nat → Nat → Option Nat := E.2.2.2.1
def eB (E : Env1) : Nat := E.2.2.2.2.1
def eD (E : Env1) : va_G := E.2.2.2.2.2.1
def eC (E : Env1) : Nat → ClassId := E.2.2.2.2.2.2.1
/-- the six words of a text: their cells, their bytes' cells -/
def sK (E : Env1) : Nat → Nat := E.2.2.2.2.2.2.2.1
def sV (E : Env1) : Nat → Nat := E.2.2.2.2.2.2.2.2
def rr (E : Env1) (q k : Nat) : Nat := (eR E q k).getD 0
def flds (E : Env1) (M : Mem) (a : Nat) : Nat → List Nat → List Value
  | _, [] => []
  | k, t :: ts => (if t = 0 then Value.int (mi M a k) else if t = 1 then Value.long (ml M a k) else va_rf (eR E a k)) :: flds E M a (k + 1) ts

def tg : Nat → List Nat := fun c => match c with
  | 0 => [0, 2, 2, 2, 2, 0, 2, 2, 2, 2, 2]
  | 1 => []
  | 2 => [2, 2, 2, 0, 0]
  | 3 => [0, 2]
  | 4 => [2, 2, 2, 0, 0]
  | 5 => []
  | 6 => [0, 2, 0, 0, 0, 0, 0, 0, 2, 0]
  | 7 => [2, 2, 2, 2, 2, 2, 1, 1, 0, 0, 0]
  | _ => [2, 0, 0, 0, 0, 0, 0, 2, 2, 2, 2, 2, 2, 2, 2, 2, 0, 0, 0, 2, 2, 0, 2, 2, 2, 1, 1, 2, 2, 1]
def cel (E : Env1) (M : Mem) (a : Nat) : va_E :=
  if eK E a = 9 then .inl (eC E 9, eN E a, .inl (mi M a))
  else if eK E a = 10 then .inl (eC E 10, eN E a, .inr (.inl (ml M a)))
  else if eK E a = 11 then .inl (eC E 11, eN E a, .inl (mi M a))
  else if eK E a = 12 then .inl (eC E 12, eN E a, .inr (.inr (.inr (.inr (eR E a)))))
  else if eK E a = 13 then .inl (eC E 13, eN E a, .inr (.inr (.inr (.inr (fun j => (eR E a j).map (fun _ => mr M a j))))))
  else if eK E a = 32 then .inl (eC E 12, eN E a, .inr (.inr (.inr (.inr (eR E a)))))
  else if eK E a = 33 then .inl (eC E 13, eN E a, .inr (.inr (.inr (.inr (fun j => (eR E a j).map (fun _ => mr M a j))))))
  else .inr (eK E a % 20, flds E M a 0 (tg (eK E a % 20)))
def isK (E : Env1) (q c : Nat) : Prop := q ∈ eL E ∧ eK E q = c
def isA (E : Env1) (q c n : Nat) : Prop := q ∈ eL E ∧ eK E q = c ∧ eN E q = n
def fK (E : Env1) (q k c : Nat) : Prop := eR E q k = some (rr E q k) ∧ isK E (rr E q k) c
def fA (E : Env1) (q k c n : Nat) : Prop := eR E q k = some (rr E q k) ∧ isA E (rr E q k) c n
/-- what the world is once it is made: each reference is where it should be -/
def wf0 (E : Env1) : Prop := ∀ q, isK E q 0 → fA E q 1 9 6 ∧ fA E q 2 9 6 ∧ fK E q 3 4 ∧ fA E q 4 13 8 ∧ fK E q 6 3 ∧ fK E q 7 3 ∧ fK E q 8 3 ∧ fK E q 9 5 ∧ fK E q 10 1
def wf2 (E : Env1) : Prop := ∀ q, isK E q 2 → fA E q 0 9 40 ∧ fA E q 1 9 256 ∧ fA E q 2 9 256
def wf3 (E : Env1) : Prop := ∀ q, isK E q 3 → fA E q 1 9 24
def wf4 (E : Env1) : Prop := ∀ q, isK E q 4 → fA E q 0 9 8 ∧ fA E q 1 9 6 ∧ fA E q 2 9 6
def wf6 (E : Env1) : Prop := ∀ q, isK E q 6 → fA E q 1 9 150 ∧ fA E q 8 9 8
def wf7 (E : Env1) : Prop := ∀ q, isK E q 7 → fK E q 0 0 ∧ fK E q 1 0 ∧ fA E q 2 12 2 ∧ fA E q 3 11 2 ∧ fK E q 4 6 ∧ fK E q 5 2
def wf8 (E : Env1) : Prop := ∀ q, isK E q 8 → fA E q 0 9 3 ∧ fA E q 7 9 6 ∧ fA E q 8 9 6 ∧ fA E q 9 9 6 ∧ fA E q 10 9 6 ∧ fA E q 11 9 8 ∧ fA E q 12 9 18 ∧ fA E q 13 9 24 ∧ fA E q 14 9 24 ∧ fA E q 15 9 150 ∧ fA E q 19 9 300 ∧ fA E q 20 9 176 ∧ fA E q 22 9 22 ∧ fA E q 23 10 164 ∧ fA E q 24 9 24 ∧ fA E q 27 9 600 ∧ fA E q 28 9 2
def wfH (E : Env1) : Prop := ∀ q, isA E q 12 2 → ∀ j, j < 2 → fK E q j 0
def wfS (E : Env1) : Prop := ∀ q, isA E q 13 8 → ∀ j, j < 8 → ∃ a, eR E q j = some a
def WF (E : Env1) : Prop := wf0 E ∧ wf2 E ∧ wf3 E ∧ wf4 E ∧ wf6 E ∧ wf7 E ∧ wf8 E ∧ wfH E ∧ wfS E
/-- the references that change: the stands of a past -/
def WM (E : Env1) (M : Mem) : Prop := ∀ q, isA E q 13 8 → ∀ j, j < 8 → isK E (mr M q j) 4
def tysE (E : Env1) : List (ClassId × FieldType) := [(eC E 9, .int), (eC E 10, .long), (eC E 11, .boolean), (eC E 12, .object "StairManners$House"), (eC E 13, .object "StairManners$Stand")]
/-- words that do not go with every method: they are carried in the world -/
def nwM : List (String × Nat × MethodName × String) := [(RX0, 51, yX6_init, RX8), (RX0, 58, yX2_init, RX8), (RX0, 81, yX8_within, RX8), (RX2, 3, yX1_init, RX8), (RX3, 49, yX8_within, RX8), (RX4, 19, yX8_within, RX8), (RX5, 49, yX8_within, RX8), (RX6, 3, yX1_init, RX8), (RX7, 43, yX8_within, RX8)]
def nwP : List MethodName := [yX1_alike, yX1_fits]
def nwD : List MethodName := [⟨RX1, "answer", "(III)I"⟩, ⟨RX1, "bestQuestion", "(I)I"⟩, yX1_fitting, yX1_mostAlike, yX1_nextQuestion]
def nwA : List String := ["StairManners$House", "StairManners$Stand"]
def NW (U : State) : Prop := (∀ q ∈ nwM, va_Nw (.methodLinkNest q.1 q.2.1 q.2.2.1 q.2.2.2) U) ∧ (∀ y ∈ nwP, va_Nw (.privateMethod y) U) ∧ (∀ y ∈ nwD, va_Nw (.declares y) U) ∧ (∀ C ∈ nwA, va_AO C U)
theorem NW_warm {s U : State} (hW : s.WarmedH U.vm) (h : NW s) : NW U :=
  ⟨fun q hq => va_Nw.warmM hW (h.1 q hq), fun y hy => va_tabs rfl (rfl : (s.setVm U.vm).vm = U.vm) (by rw [Cond.privateMethod_setVm hW.alike]; exact h.2.1 y hy), fun y hy => va_Nw.warmD hW (h.2.2.1 y hy), fun C hC => va_AO.moved hW.alike (h.2.2.2 C hC)⟩
def eA (E : Env1) : Nat → Prop := fun q => eB E ≤ q
def sLen : List Nat := [5, 3, 5, 6, 2, 7]
def sByt : List (List Int32) := [[104, 111, 117, 115, 101], [111, 110, 101], [107, 110, 111, 119, 115], [99, 97, 114, 112, 101, 116], [97, 116], [109, 105, 110, 117, 116, 101, 115]]
def sTx : Nat → String := fun i => match i with | 0 => "house" | 1 => "one" | 2 => "knows" | 3 => "carpet" | 4 => "at" | _ => "minutes"
def SW (E : Env1) (U : State) (H : Heap) : Prop := vk_S 6 sLen sByt (sK E) (sV E) (eA E) U H ∧ (∀ i, i < 6 → vk_R RX7 (143 + 2 * i) (sTx i) (sK E i) U) ∧ va_Z "java/lang/String" "COMPACT_STRINGS" "Z" (.int 1) (eA E) U H ∧ ∃ w : Value, (w = .null ∨ ∃ a, w = .ref a) ∧ va_Z "jdk/internal/util/Preconditions" "SIOOBE_FORMATTER" "Ljava/util/function/BiFunction;" w (eA E) U H
theorem SW_go {E : Env1} {s U : State} {H : Heap} {locs : List Loc} (h : SW E s s.heap) (hW : s.WarmedH U.vm) (hS : va_S (eA E) s.heap H locs) : SW E U H := by
  obtain ⟨h1, h2, h3, w, hw, h4⟩ := h
  exact ⟨(vk_S.moved hW.alike h1).kept hS.2.1, fun i hi => (h2 i hi).warm hW, (va_Z.moved hW.alike h3).kept hS.2.1, w, hw, (va_Z.moved hW.alike h4).kept hS.2.1⟩
theorem SW_calling {E : Env1} {U : State} {g : JFrame} {mk : MethodId} {a : Array Value} (h : SW E U U.heap) : SW E (U.calling g mk a) (U.calling g mk a).heap := by
  obtain ⟨h1, h2, h3, w, hw, h4⟩ := h
  exact ⟨vk_S.moved (u := U) (U := U.calling g mk a) (Vm.Alike.refl U.vm) h1, fun i hi => (h2 i hi).same (u := U) (U := U.calling g mk a) rfl, va_Z.moved (u := U) (U := U.calling g mk a) (Vm.Alike.refl U.vm) h3, w, hw, va_Z.moved (u := U) (U := U.calling g mk a) (Vm.Alike.refl U.vm) h4⟩
def Wd (E : Env1) (M : Mem) (s : State) (H : Heap) (locs : List Loc) : Prop := va_P (eD E) vwCl (va_pl (eL E) (cel E M)) H ∧ va_D (eA E) (va_pl (eL E) (cel E M)) ∧ va_S (eA E) s.heap H locs
def PreU (E : Env1) (M : Mem) (U : State) : Prop := va_P (eD E) vwCl (va_pl (eL E) (cel E M)) U.heap ∧ va_K (eD E) vwCl (tysE E) U ∧ va_D (eA E) (va_pl (eL E) (cel E M)) ∧ eB E ≤ U.heap.size ∧ WM E M ∧ NW U ∧ SW E U U.heap
/-! locals by their numbers -/
def lvO (ls : Array Slot) (nL : Nat) (L : List (Option Value)) : Prop := ls.size = nL ∧ lv_wf ls ∧ ∀ (i : Nat) (v : Value), L[i]? = some (some v) → ls[i]? = some (.val v)
def asl : Nat → List (Option Value) → List (Nat × Value)
  | _, [] => []
  | i, none :: L => asl (i + 1) L
  | i, some v :: L => (i, v) :: asl (i + 1) L
theorem asl_mem : ∀ (L : List (Option Value)) (i : Nat) (q : Nat × Value), q ∈ asl i L → ∃ j, q.1 = i + j ∧ L[j]? = some (some q.2)
  | [], _, _, h => by simp [asl] at h
  | none :: L, i, q, h => by
    obtain ⟨j, h1, h2⟩ := asl_mem L (i + 1) q h
    exact ⟨j + 1, by omega, by simpa using h2⟩
  | some v :: L, i, q, h => by
    rcases List.mem_cons.mp h with rfl | h
    · exact ⟨0, rfl, rfl⟩
    · obtain ⟨j, h1, h2⟩ := asl_mem L (i + 1) q h
      exact ⟨j + 1, by omega, by simpa using h2⟩
theorem mem_asl : ∀ (L : List (Option Value)) (i j : Nat) (v : Value), L[j]? = some (some v) → (i + j, v) ∈ asl i L
  | [], _, _, _, h => by simp at h
  | none :: L, i, 0, v, h => by simp at h
  | some w :: L, i, 0, v, h => by
    simp at h
    subst h
    exact List.mem_cons_self
  | none :: L, i, j + 1, v, h => by
    have := mem_asl L (i + 1) j v (by simpa using h)
    rw [show i + (j + 1) = i + 1 + j by omega]
    exact this
  | some w :: L, i, j + 1, v, h => by
    have := mem_asl L (i + 1) j v (by simpa using h)
    rw [show i + (j + 1) = i + 1 + j by omega]
    exact List.mem_cons_of_mem _ this
theorem lvO.has {ls : Array Slot} {nL : Nat} {L : List (Option Value)} (h : lvO ls nL L) : lv_has ls nL (asl 0 L) := by
  refine ⟨h.1, h.2.1, fun q hq => ?_⟩
  obtain ⟨j, h1, h2⟩ := asl_mem L 0 q hq
  rw [h1, Nat.zero_add]
  exact h.2.2 j q.2 h2
/-- a value of one slot is stored: what lay before in a long's two slots goes -/
def st1 (i : Nat) (v : Value) : Nat → List (Option Value) → List (Option Value)
  | _, [] => []
  | j, o :: L => (if j = i then some v else if j + 1 = i then (match o with | some (.long _) => none | some (.double _) => none | x => x) else o) :: st1 i v (j + 1) L
def st2 (i : Nat) (v : Value) : Nat → List (Option Value) → List (Option Value)
  | _, [] => []
  | j, o :: L => (if j = i then some v else if j = i + 1 then none else if j + 1 = i then (match o with | some (.long _) => none | some (.double _) => none | x => x) else o) :: st2 i v (j + 1) L
theorem st1_get (i : Nat) (v : Value) : ∀ (L : List (Option Value)) (j n : Nat) (w : Value), (st1 i v j L)[n]? = some (some w) → (j + n = i ∧ w = v) ∨ (j + n ≠ i ∧ L[n]? = some (some w) ∧ (j + n + 1 = i → w.category = 1))
  | [], _, _, _, h => by simp [st1] at h
  | o :: L, j, 0, w, h => by
    simp only [st1, List.getElem?_cons_zero, Option.some.injEq] at h
    by_cases h1 : j = i
    · rw [if_pos h1] at h
      exact Or.inl ⟨h1, (Option.some.inj h).symm⟩
    · rw [if_neg h1] at h
      refine Or.inr ⟨h1, ?_⟩
      by_cases h2 : j + 1 = i
      · rw [if_pos h2] at h
        cases o with
        | none => simp at h
        | some x => cases x <;> simp at h <;> subst h <;> exact ⟨rfl, fun _ => rfl⟩
      · rw [if_neg h2] at h
        exact ⟨by simp [h], fun h3 => absurd h3 h2⟩
  | o :: L, j, n + 1, w, h => by
    have h' : (st1 i v (j + 1) L)[n]? = some (some w) := by simpa [st1] using h
    have := st1_get i v L (j + 1) n w h'
    rw [show j + 1 + n = j + (n + 1) by omega] at this
    simpa using this
theorem st2_get (i : Nat) (v : Value) : ∀ (L : List (Option Value)) (j n : Nat) (w : Value), (st2 i v j L)[n]? = some (some w) → (j + n = i ∧ w = v) ∨ (j + n ≠ i ∧ j + n ≠ i + 1 ∧ L[n]? = some (some w) ∧ (j + n + 1 = i → w.category = 1))
  | [], _, _, _, h => by simp [st2] at h
  | o :: L, j, 0, w, h => by
    simp only [st2, List.getElem?_cons_zero, Option.some.injEq] at h
    by_cases h1 : j = i
    · rw [if_pos h1] at h
      exact Or.inl ⟨h1, (Option.some.inj h).symm⟩
    · rw [if_neg h1] at h
      by_cases h4 : j = i + 1
      · rw [if_pos h4] at h; simp at h
      rw [if_neg h4] at h
      refine Or.inr ⟨h1, h4, ?_⟩
      by_cases h2 : j + 1 = i
      · rw [if_pos h2] at h
        cases o with
        | none => simp at h
        | some x => cases x <;> simp at h <;> subst h <;> exact ⟨rfl, fun _ => rfl⟩
      · rw [if_neg h2] at h
        exact ⟨by simp [h], fun h3 => absurd h3 h2⟩
  | o :: L, j, n + 1, w, h => by
    have h' : (st2 i v (j + 1) L)[n]? = some (some w) := by simpa [st2] using h
    have := st2_get i v L (j + 1) n w h'
    rw [show j + 1 + n = j + (n + 1) by omega] at this
    simpa using this
theorem lvO_st1 {ls' : Array Slot} {nL i : Nat} {v : Value} {L : List (Option Value)} (h : lv_has ls' nL ((i, v) :: (asl 0 L).filter (fun q => !(q.1 == i) && !(q.1 + 1 == i && q.2.category == 2)))) : lvO ls' nL (st1 i v 0 L) := by
  refine ⟨h.1, h.2.1, fun n w hw => ?_⟩
  rcases st1_get i v L 0 n w hw with ⟨h1, h2⟩ | ⟨h1, h2, h3⟩
  · rw [h2, show n = i by omega]
    exact h.2.2 _ List.mem_cons_self
  · refine h.2.2 (n, w) (List.mem_cons_of_mem _ (List.mem_filter.mpr ⟨?_, ?_⟩))
    · have := mem_asl L 0 n w h2
      rwa [Nat.zero_add] at this
    · have a1 : n ≠ i := by omega
      by_cases a2 : n + 1 = i
      · have := h3 (by omega)
        simp [a1, this]
      · simp [a1, a2]
theorem lvO_st2 {ls' : Array Slot} {nL i : Nat} {v : Value} {L : List (Option Value)} (h : lv_has ls' nL ((i, v) :: (asl 0 L).filter (fun q => !(q.1 == i) && (!(q.1 == i + 1) && !(q.1 + 1 == i && q.2.category == 2))))) : lvO ls' nL (st2 i v 0 L) := by
  refine ⟨h.1, h.2.1, fun n w hw => ?_⟩
  rcases st2_get i v L 0 n w hw with ⟨h1, h2⟩ | ⟨h1, h4, h2, h3⟩
  · rw [h2, show n = i by omega]
    exact h.2.2 _ List.mem_cons_self
  · refine h.2.2 (n, w) (List.mem_cons_of_mem _ (List.mem_filter.mpr ⟨?_, ?_⟩))
    · have := mem_asl L 0 n w h2
      rwa [Nat.zero_add] at this
    · have a1 : n ≠ i := by omega
      have a3 : n ≠ i + 1 := by omega
      by_cases a2 : n + 1 = i
      · have := h3 (by omega)
        simp [a1, a3, this]
      · simp [a1, a2, a3]
/-- fewer locals -/
def msk : List Bool → List (Option Value) → List (Option Value)
  | b :: bs, o :: L => (if b = true then o else none) :: msk bs L
  | _, _ => []
theorem msk_get : ∀ (bs : List Bool) (L : List (Option Value)) (n : Nat) (v : Value), (msk bs L)[n]? = some (some v) → L[n]? = some (some v)
  | [], L, n, v, h => by cases L <;> simp [msk] at h
  | b :: bs, [], n, v, h => by simp [msk] at h
  | b :: bs, o :: L, 0, v, h => by
    cases b <;> simp [msk] at h
    simp [h]
  | b :: bs, o :: L, n + 1, v, h => by
    have := msk_get bs L n v (by simpa [msk] using h)
    simpa using this
/-- the judgement: all that does not change in a method's walk is X -/
abbrev Ctx : Type := Program × Launch × Env × Room × State × MethodId × Array Value × List Frame × Method × Code × (State → Prop) × Nat
def G (X : Ctx) (E : Env1) (cs : Nat × Nat) (pc : Nat) (L : List (Option Value)) (st : List Value) (M : Mem) : Prop := match X with
  | (p, l, e, R, s, m, args, below, meth, c, Q, nL) => ∀ (H : Heap) (locs : List Loc) (ls : Array Slot), Wd E M s H locs → WM E M → lvO ls nL L → W p l e R s m args below meth c H locs cs.1 cs.2 Q (F0 m pc ls st)
def Cx (X : Ctx) (l0 : Launch) (E : Env1) (own : String) (cc : ByteArray) (ret : Option FieldType) (nL0 : Nat) (rm : Room) : Prop := match X with
  | (p, l, e, R, s, m, args, below, meth, c, Q, nL) => p.tables.exec = Jvm.exec ∧ c.code = cc ∧ meth.sig.returnType = ret ∧ c.maxLocals = nL ∧ s.vm.findClass own = some m.cls ∧ (∀ w ∈ lw_g, w.before args s = true) ∧ meth.locks = false ∧ va_K (eD E) vwCl (tysE E) s ∧ eB E ≤ s.heap.size ∧ nL = nL0 ∧ R = rm ∧ l = l0 ∧ NW s ∧ SW E s s.heap
section Rows
variable {X : Ctx} {l0 : Launch} {E : Env1} {cs : Nat × Nat} {own : String} {cc : ByteArray} {ret : Option FieldType} {nL pc : Nat} {rm : Room} {L L' : List (Option Value)} {st : List Value} {M : Mem}
theorem G_msk (bs : List Bool) (k : G X E cs pc (msk bs L) st M) : G X E cs pc L st M := by
  obtain ⟨p, l, e, R, s, m, args, below, meth, c, Q, nl⟩ := X
  intro H locs ls hW hM hl
  exact k H locs ls hW hM ⟨hl.1, hl.2.1, fun i v h => hl.2.2 i v (msk_get bs L i v h)⟩

theorem G_iconst (h : Cx X l0 E own cc ret nL rm) {n : Int} {v : Int32} (hd : decode cc pc = .ok (.iconst n, 1)) (hv : Int32.ofInt n = v) {pc' : Nat} (hp : pc + 1 = pc') (k : G X E cs pc' L (.int v :: st) M) : G X E cs pc L st M := by
  subst hp
  obtain ⟨p, l, e, R, s, m, args, below, meth, c, Q, nl⟩ := X
  obtain ⟨hx, hb, hr, hml, hown, hts, hlk, hK, hB, rfl, rfl, rfl, hN, hZ⟩ := h
  intro H locs ls hW hM hl
  exact lv_iconst hx hb hd hv (k H locs ls hW hM hl)
theorem G_bipush (h : Cx X l0 E own cc ret nL rm) {n : Int} {v : Int32} (hd : decode cc pc = .ok (.bipush n, 2)) (hv : (Int8.ofInt n).toInt32 = v) {pc' : Nat} (hp : pc + 2 = pc') (k : G X E cs pc' L (.int v :: st) M) : G X E cs pc L st M := by
  subst hp
  obtain ⟨p, l, e, R, s, m, args, below, meth, c, Q, nl⟩ := X
  obtain ⟨hx, hb, hr, hml, hown, hts, hlk, hK, hB, rfl, rfl, rfl, hN, hZ⟩ := h
  intro H locs ls hW hM hl
  exact lv_bipush hx hb hd hv (k H locs ls hW hM hl)
theorem G_sipush (h : Cx X l0 E own cc ret nL rm) {n : Int} {v : Int32} (hd : decode cc pc = .ok (.sipush n, 3)) (hv : (Int16.ofInt n).toInt32 = v) {pc' : Nat} (hp : pc + 3 = pc') (k : G X E cs pc' L (.int v :: st) M) : G X E cs pc L st M := by
  subst hp
  obtain ⟨p, l, e, R, s, m, args, below, meth, c, Q, nl⟩ := X
  obtain ⟨hx, hb, hr, hml, hown, hts, hlk, hK, hB, rfl, rfl, rfl, hN, hZ⟩ := h
  intro H locs ls hW hM hl
  exact lv_sipush hx hb hd hv (k H locs ls hW hM hl)
theorem G_lconst (h : Cx X l0 E own cc ret nL rm) {n : Fin 2} {v : Int64} (hd : decode cc pc = .ok (.lconst n, 1)) (hv : Int64.ofNat (n : Nat) = v) {pc' : Nat} (hp : pc + 1 = pc') (k : G X E cs pc' L (.long v :: st) M) : G X E cs pc L st M := by
  subst hp
  obtain ⟨p, l, e, R, s, m, args, below, meth, c, Q, nl⟩ := X
  obtain ⟨hx, hb, hr, hml, hown, hts, hlk, hK, hB, rfl, rfl, rfl, hN, hZ⟩ := h
  intro H locs ls hW hM hl
  exact lv_lconst hx hb hd hv (k H locs ls hW hM hl)
theorem G_ldc (h : Cx X l0 E own cc ret nL rm) {idx : Nat} {v : Int32} (hw : Jvm.Cond.constant own idx v ∈ lw_g) (hd : decode cc pc = .ok (.ldc idx, 2)) {pc' : Nat} (hp : pc + 2 = pc') (k : G X E cs pc' L (.int v :: st) M) : G X E cs pc L st M := by
  subst hp
  obtain ⟨p, l, e, R, s, m, args, below, meth, c, Q, nl⟩ := X
  obtain ⟨hx, hb, hr, hml, hown, hts, hlk, hK, hB, rfl, rfl, rfl, hN, hZ⟩ := h
  intro H locs ls hW hM hl
  exact lv_ldc hx hb hown (hts _ hw) hd (k H locs ls hW hM hl)
theorem G_ldcw (h : Cx X l0 E own cc ret nL rm) {idx : Nat} {v : Int32} (hw : Jvm.Cond.constant own idx v ∈ lw_g) (hd : decode cc pc = .ok (.ldc_w idx, 3)) {pc' : Nat} (hp : pc + 3 = pc') (k : G X E cs pc' L (.int v :: st) M) : G X E cs pc L st M := by
  subst hp
  obtain ⟨p, l, e, R, s, m, args, below, meth, c, Q, nl⟩ := X
  obtain ⟨hx, hb, hr, hml, hown, hts, hlk, hK, hB, rfl, rfl, rfl, hN, hZ⟩ := h
  intro H locs ls hW hM hl
  exact lv_ldcw hx hb hown (hts _ hw) hd (k H locs ls hW hM hl)
theorem G_ldc2 (h : Cx X l0 E own cc ret nL rm) {idx : Nat} {v : Int64} (hw : Jvm.Cond.constantLong own idx v ∈ lw_g) (hd : decode cc pc = .ok (.ldc2_w idx, 3)) {pc' : Nat} (hp : pc + 3 = pc') (k : G X E cs pc' L (.long v :: st) M) : G X E cs pc L st M := by
  subst hp
  obtain ⟨p, l, e, R, s, m, args, below, meth, c, Q, nl⟩ := X
  obtain ⟨hx, hb, hr, hml, hown, hts, hlk, hK, hB, rfl, rfl, rfl, hN, hZ⟩ := h
  intro H locs ls hW hM hl
  exact lv_ldc2 hx hb hown (hts _ hw) hd (k H locs ls hW hM hl)
theorem G_iload_n (h : Cx X l0 E own cc ret nL rm) {f : Fin 4} {i : Nat} {x : Int32} (hd : decode cc pc = .ok (.iload_n f, 1)) (hi : (f : Nat) = i) (hl0 : L[i]? = some (some (.int x))) {pc' : Nat} (hp : pc + 1 = pc') (k : G X E cs pc' L (.int x :: st) M) : G X E cs pc L st M := by
  subst hp
  obtain ⟨p, l, e, R, s, m, args, below, meth, c, Q, nl⟩ := X
  obtain ⟨hx, hb, hr, hml, hown, hts, hlk, hK, hB, rfl, rfl, rfl, hN, hZ⟩ := h
  intro H locs ls hW hM hl
  exact lv_iload_n hx hb hd hi (hl.2.2 _ _ hl0) (k H locs ls hW hM hl)
theorem G_iload (h : Cx X l0 E own cc ret nL rm) {i : Nat} {x : Int32} (hd : decode cc pc = .ok (.iload i, 2)) (hl0 : L[i]? = some (some (.int x))) {pc' : Nat} (hp : pc + 2 = pc') (k : G X E cs pc' L (.int x :: st) M) : G X E cs pc L st M := by
  subst hp
  obtain ⟨p, l, e, R, s, m, args, below, meth, c, Q, nl⟩ := X
  obtain ⟨hx, hb, hr, hml, hown, hts, hlk, hK, hB, rfl, rfl, rfl, hN, hZ⟩ := h
  intro H locs ls hW hM hl
  exact lv_iload hx hb hd (hl.2.2 _ _ hl0) (k H locs ls hW hM hl)
theorem G_lload_n (h : Cx X l0 E own cc ret nL rm) {f : Fin 4} {i : Nat} {x : Int64} (hd : decode cc pc = .ok (.lload_n f, 1)) (hi : (f : Nat) = i) (hl0 : L[i]? = some (some (.long x))) {pc' : Nat} (hp : pc + 1 = pc') (k : G X E cs pc' L (.long x :: st) M) : G X E cs pc L st M := by
  subst hp
  obtain ⟨p, l, e, R, s, m, args, below, meth, c, Q, nl⟩ := X
  obtain ⟨hx, hb, hr, hml, hown, hts, hlk, hK, hB, rfl, rfl, rfl, hN, hZ⟩ := h
  intro H locs ls hW hM hl
  exact lv_lload_n hx hb hd hi (hl.2.2 _ _ hl0) (k H locs ls hW hM hl)
theorem G_lload (h : Cx X l0 E own cc ret nL rm) {i : Nat} {x : Int64} (hd : decode cc pc = .ok (.lload i, 2)) (hl0 : L[i]? = some (some (.long x))) {pc' : Nat} (hp : pc + 2 = pc') (k : G X E cs pc' L (.long x :: st) M) : G X E cs pc L st M := by
  subst hp
  obtain ⟨p, l, e, R, s, m, args, below, meth, c, Q, nl⟩ := X
  obtain ⟨hx, hb, hr, hml, hown, hts, hlk, hK, hB, rfl, rfl, rfl, hN, hZ⟩ := h
  intro H locs ls hW hM hl
  exact lv_lload hx hb hd (hl.2.2 _ _ hl0) (k H locs ls hW hM hl)
theorem G_aload_n (h : Cx X l0 E own cc ret nL rm) {f : Fin 4} {i : Nat} {x : Nat} (hd : decode cc pc = .ok (.aload_n f, 1)) (hi : (f : Nat) = i) (hl0 : L[i]? = some (some (.ref x))) {pc' : Nat} (hp : pc + 1 = pc') (k : G X E cs pc' L (.ref x :: st) M) : G X E cs pc L st M := by
  subst hp
  obtain ⟨p, l, e, R, s, m, args, below, meth, c, Q, nl⟩ := X
  obtain ⟨hx, hb, hr, hml, hown, hts, hlk, hK, hB, rfl, rfl, rfl, hN, hZ⟩ := h
  intro H locs ls hW hM hl
  exact lv_aload_n hx hb hd hi (hl.2.2 _ _ hl0) (k H locs ls hW hM hl)
theorem G_aload (h : Cx X l0 E own cc ret nL rm) {i : Nat} {x : Nat} (hd : decode cc pc = .ok (.aload i, 2)) (hl0 : L[i]? = some (some (.ref x))) {pc' : Nat} (hp : pc + 2 = pc') (k : G X E cs pc' L (.ref x :: st) M) : G X E cs pc L st M := by
  subst hp
  obtain ⟨p, l, e, R, s, m, args, below, meth, c, Q, nl⟩ := X
  obtain ⟨hx, hb, hr, hml, hown, hts, hlk, hK, hB, rfl, rfl, rfl, hN, hZ⟩ := h
  intro H locs ls hW hM hl
  exact lv_aload hx hb hd (hl.2.2 _ _ hl0) (k H locs ls hW hM hl)
theorem G_istore_n (h : Cx X l0 E own cc ret nL rm) {f : Fin 4} {i : Nat} {x : Int32} (hd : decode cc pc = .ok (.istore_n f, 1)) (hi : (f : Nat) = i) (hn : i < nL) (hL : st1 i (.int x) 0 L = L') {pc' : Nat} (hp : pc + 1 = pc') (k : G X E cs pc' L' st M) : G X E cs pc L (.int x :: st) M := by
  subst hp
  subst hL
  obtain ⟨p, l, e, R, s, m, args, below, meth, c, Q, nl⟩ := X
  obtain ⟨hx, hb, hr, hml, hown, hts, hlk, hK, hB, rfl, rfl, rfl, hN, hZ⟩ := h
  intro H locs ls hW hM hl
  exact lv_istore_n hx hb hd hi hl.has hn rfl (fun ls' hl' => k H locs ls' hW hM (lvO_st1 hl'))
theorem G_istore (h : Cx X l0 E own cc ret nL rm) {i : Nat} {x : Int32} (hd : decode cc pc = .ok (.istore i, 2)) (hn : i < nL) (hL : st1 i (.int x) 0 L = L') {pc' : Nat} (hp : pc + 2 = pc') (k : G X E cs pc' L' st M) : G X E cs pc L (.int x :: st) M := by
  subst hp
  subst hL
  obtain ⟨p, l, e, R, s, m, args, below, meth, c, Q, nl⟩ := X
  obtain ⟨hx, hb, hr, hml, hown, hts, hlk, hK, hB, rfl, rfl, rfl, hN, hZ⟩ := h
  intro H locs ls hW hM hl
  exact lv_istore hx hb hd hl.has hn rfl (fun ls' hl' => k H locs ls' hW hM (lvO_st1 hl'))
theorem G_astore_n (h : Cx X l0 E own cc ret nL rm) {f : Fin 4} {i : Nat} {x : Nat} (hd : decode cc pc = .ok (.astore_n f, 1)) (hi : (f : Nat) = i) (hn : i < nL) (hL : st1 i (.ref x) 0 L = L') {pc' : Nat} (hp : pc + 1 = pc') (k : G X E cs pc' L' st M) : G X E cs pc L (.ref x :: st) M := by
  subst hp
  subst hL
  obtain ⟨p, l, e, R, s, m, args, below, meth, c, Q, nl⟩ := X
  obtain ⟨hx, hb, hr, hml, hown, hts, hlk, hK, hB, rfl, rfl, rfl, hN, hZ⟩ := h
  intro H locs ls hW hM hl
  exact lv_astore_n hx hb hd hi hl.has hn rfl (fun ls' hl' => k H locs ls' hW hM (lvO_st1 hl'))
theorem G_astore (h : Cx X l0 E own cc ret nL rm) {i : Nat} {x : Nat} (hd : decode cc pc = .ok (.astore i, 2)) (hn : i < nL) (hL : st1 i (.ref x) 0 L = L') {pc' : Nat} (hp : pc + 2 = pc') (k : G X E cs pc' L' st M) : G X E cs pc L (.ref x :: st) M := by
  subst hp
  subst hL
  obtain ⟨p, l, e, R, s, m, args, below, meth, c, Q, nl⟩ := X
  obtain ⟨hx, hb, hr, hml, hown, hts, hlk, hK, hB, rfl, rfl, rfl, hN, hZ⟩ := h
  intro H locs ls hW hM hl
  exact lv_astore hx hb hd hl.has hn rfl (fun ls' hl' => k H locs ls' hW hM (lvO_st1 hl'))
theorem G_lstore_n (h : Cx X l0 E own cc ret nL rm) {f : Fin 4} {i : Nat} {x : Int64} (hd : decode cc pc = .ok (.lstore_n f, 1)) (hi : (f : Nat) = i) (hn : i + 1 < nL) (hL : st2 i (.long x) 0 L = L') {pc' : Nat} (hp : pc + 1 = pc') (k : G X E cs pc' L' st M) : G X E cs pc L (.long x :: st) M := by
  subst hp
  subst hL
  obtain ⟨p, l, e, R, s, m, args, below, meth, c, Q, nl⟩ := X
  obtain ⟨hx, hb, hr, hml, hown, hts, hlk, hK, hB, rfl, rfl, rfl, hN, hZ⟩ := h
  intro H locs ls hW hM hl
  exact lv_lstore_n hx hb hd hi hl.has hn rfl (fun ls' hl' => k H locs ls' hW hM (lvO_st2 hl'))
theorem G_lstore (h : Cx X l0 E own cc ret nL rm) {i : Nat} {x : Int64} (hd : decode cc pc = .ok (.lstore i, 2)) (hn : i + 1 < nL) (hL : st2 i (.long x) 0 L = L') {pc' : Nat} (hp : pc + 2 = pc') (k : G X E cs pc' L' st M) : G X E cs pc L (.long x :: st) M := by
  subst hp
  subst hL
  obtain ⟨p, l, e, R, s, m, args, below, meth, c, Q, nl⟩ := X
  obtain ⟨hx, hb, hr, hml, hown, hts, hlk, hK, hB, rfl, rfl, rfl, hN, hZ⟩ := h
  intro H locs ls hW hM hl
  exact lv_lstore hx hb hd hl.has hn rfl (fun ls' hl' => k H locs ls' hW hM (lvO_st2 hl'))
theorem asl_place (L : List (Option Value)) (i : Nat) (v : Value) (h : L[i]? = some (some v)) : ∃ k : Nat, (asl 0 L)[k]? = some (i, v) := by
  have := mem_asl L 0 i v h
  rw [Nat.zero_add] at this
  exact List.getElem?_of_mem this
theorem G_iinc (h : Cx X l0 E own cc ret nL rm) {i : Nat} {n : Int} {x v : Int32} (hd : decode cc pc = .ok (.iinc i n, 3)) (hl0 : L[i]? = some (some (.int x))) (hv : x + Int32.ofInt n = v) (hn : i < nL) (hL : st1 i (.int v) 0 L = L') {pc' : Nat} (hp : pc + 3 = pc') (k : G X E cs pc' L' st M) : G X E cs pc L st M := by
  subst hp
  subst hL
  obtain ⟨p, l, e, R, s, m, args, below, meth, c, Q, nl⟩ := X
  obtain ⟨hx, hb, hr, hml, hown, hts, hlk, hK, hB, rfl, rfl, rfl, hN, hZ⟩ := h
  intro H locs ls hW hM hl
  obtain ⟨kk, hk⟩ := asl_place _ _ _ hl0
  exact lv_iinc hx hb hd hl.has hk hv hn rfl (fun ls' hl' => k H locs ls' hW hM (lvO_st1 hl'))
theorem G_iadd (h : Cx X l0 E own cc ret nL rm) {x y : Int32} (hd : decode cc pc = .ok (.iadd, 1)) {pc' : Nat} (hp : pc + 1 = pc') (k : G X E cs pc' L (.int (x + y) :: st) M) : G X E cs pc L (.int y :: .int x :: st) M := by
  subst hp
  obtain ⟨p, l, e, R, s, m, args, below, meth, c, Q, nl⟩ := X
  obtain ⟨hx, hb, hr, hml, hown, hts, hlk, hK, hB, rfl, rfl, rfl, hN, hZ⟩ := h
  intro H locs ls hW hM hl
  exact lv_iadd hx hb hd (k H locs ls hW hM hl)
theorem G_isub (h : Cx X l0 E own cc ret nL rm) {x y : Int32} (hd : decode cc pc = .ok (.isub, 1)) {pc' : Nat} (hp : pc + 1 = pc') (k : G X E cs pc' L (.int (x - y) :: st) M) : G X E cs pc L (.int y :: .int x :: st) M := by
  subst hp
  obtain ⟨p, l, e, R, s, m, args, below, meth, c, Q, nl⟩ := X
  obtain ⟨hx, hb, hr, hml, hown, hts, hlk, hK, hB, rfl, rfl, rfl, hN, hZ⟩ := h
  intro H locs ls hW hM hl
  exact lv_isub hx hb hd (k H locs ls hW hM hl)
theorem G_imul (h : Cx X l0 E own cc ret nL rm) {x y : Int32} (hd : decode cc pc = .ok (.imul, 1)) {pc' : Nat} (hp : pc + 1 = pc') (k : G X E cs pc' L (.int (x * y) :: st) M) : G X E cs pc L (.int y :: .int x :: st) M := by
  subst hp
  obtain ⟨p, l, e, R, s, m, args, below, meth, c, Q, nl⟩ := X
  obtain ⟨hx, hb, hr, hml, hown, hts, hlk, hK, hB, rfl, rfl, rfl, hN, hZ⟩ := h
  intro H locs ls hW hM hl
  exact lv_imul hx hb hd (k H locs ls hW hM hl)
theorem G_iand (h : Cx X l0 E own cc ret nL rm) {x y : Int32} (hd : decode cc pc = .ok (.iand, 1)) {pc' : Nat} (hp : pc + 1 = pc') (k : G X E cs pc' L (.int (x &&& y) :: st) M) : G X E cs pc L (.int y :: .int x :: st) M := by
  subst hp
  obtain ⟨p, l, e, R, s, m, args, below, meth, c, Q, nl⟩ := X
  obtain ⟨hx, hb, hr, hml, hown, hts, hlk, hK, hB, rfl, rfl, rfl, hN, hZ⟩ := h
  intro H locs ls hW hM hl
  exact lv_iand hx hb hd (k H locs ls hW hM hl)
theorem G_ior (h : Cx X l0 E own cc ret nL rm) {x y : Int32} (hd : decode cc pc = .ok (.ior, 1)) {pc' : Nat} (hp : pc + 1 = pc') (k : G X E cs pc' L (.int (x ||| y) :: st) M) : G X E cs pc L (.int y :: .int x :: st) M := by
  subst hp
  obtain ⟨p, l, e, R, s, m, args, below, meth, c, Q, nl⟩ := X
  obtain ⟨hx, hb, hr, hml, hown, hts, hlk, hK, hB, rfl, rfl, rfl, hN, hZ⟩ := h
  intro H locs ls hW hM hl
  exact lv_ior hx hb hd (k H locs ls hW hM hl)
theorem G_ixor (h : Cx X l0 E own cc ret nL rm) {x y : Int32} (hd : decode cc pc = .ok (.ixor, 1)) {pc' : Nat} (hp : pc + 1 = pc') (k : G X E cs pc' L (.int (x ^^^ y) :: st) M) : G X E cs pc L (.int y :: .int x :: st) M := by
  subst hp
  obtain ⟨p, l, e, R, s, m, args, below, meth, c, Q, nl⟩ := X
  obtain ⟨hx, hb, hr, hml, hown, hts, hlk, hK, hB, rfl, rfl, rfl, hN, hZ⟩ := h
  intro H locs ls hW hM hl
  exact lv_ixor hx hb hd (k H locs ls hW hM hl)
theorem G_ishl (h : Cx X l0 E own cc ret nL rm) {x y : Int32} (hd : decode cc pc = .ok (.ishl, 1)) {pc' : Nat} (hp : pc + 1 = pc') (k : G X E cs pc' L (.int (x <<< (y &&& 31)) :: st) M) : G X E cs pc L (.int y :: .int x :: st) M := by
  subst hp
  obtain ⟨p, l, e, R, s, m, args, below, meth, c, Q, nl⟩ := X
  obtain ⟨hx, hb, hr, hml, hown, hts, hlk, hK, hB, rfl, rfl, rfl, hN, hZ⟩ := h
  intro H locs ls hW hM hl
  exact lv_ishl hx hb hd (k H locs ls hW hM hl)
theorem G_ishr (h : Cx X l0 E own cc ret nL rm) {x y : Int32} (hd : decode cc pc = .ok (.ishr, 1)) {pc' : Nat} (hp : pc + 1 = pc') (k : G X E cs pc' L (.int (x >>> (y &&& 31)) :: st) M) : G X E cs pc L (.int y :: .int x :: st) M := by
  subst hp
  obtain ⟨p, l, e, R, s, m, args, below, meth, c, Q, nl⟩ := X
  obtain ⟨hx, hb, hr, hml, hown, hts, hlk, hK, hB, rfl, rfl, rfl, hN, hZ⟩ := h
  intro H locs ls hW hM hl
  exact lv_ishr hx hb hd (k H locs ls hW hM hl)
theorem G_idiv (h : Cx X l0 E own cc ret nL rm) {x y : Int32} (hd : decode cc pc = .ok (.idiv, 1)) (hne : ¬ y = 0) {pc' : Nat} (hp : pc + 1 = pc') (k : G X E cs pc' L (.int (x / y) :: st) M) : G X E cs pc L (.int y :: .int x :: st) M := by
  subst hp
  obtain ⟨p, l, e, R, s, m, args, below, meth, c, Q, nl⟩ := X
  obtain ⟨hx, hb, hr, hml, hown, hts, hlk, hK, hB, rfl, rfl, rfl, hN, hZ⟩ := h
  intro H locs ls hW hM hl
  exact lv_idiv hx hb hd hne (k H locs ls hW hM hl)
theorem G_irem (h : Cx X l0 E own cc ret nL rm) {x y : Int32} (hd : decode cc pc = .ok (.irem, 1)) (hne : ¬ y = 0) {pc' : Nat} (hp : pc + 1 = pc') (k : G X E cs pc' L (.int (x - x / y * y) :: st) M) : G X E cs pc L (.int y :: .int x :: st) M := by
  subst hp
  obtain ⟨p, l, e, R, s, m, args, below, meth, c, Q, nl⟩ := X
  obtain ⟨hx, hb, hr, hml, hown, hts, hlk, hK, hB, rfl, rfl, rfl, hN, hZ⟩ := h
  intro H locs ls hW hM hl
  exact lv_irem hx hb hd hne (k H locs ls hW hM hl)
theorem G_ladd (h : Cx X l0 E own cc ret nL rm) {x y : Int64} (hd : decode cc pc = .ok (.ladd, 1)) {pc' : Nat} (hp : pc + 1 = pc') (k : G X E cs pc' L (.long (x + y) :: st) M) : G X E cs pc L (.long y :: .long x :: st) M := by
  subst hp
  obtain ⟨p, l, e, R, s, m, args, below, meth, c, Q, nl⟩ := X
  obtain ⟨hx, hb, hr, hml, hown, hts, hlk, hK, hB, rfl, rfl, rfl, hN, hZ⟩ := h
  intro H locs ls hW hM hl
  exact lv_ladd hx hb hd (k H locs ls hW hM hl)
theorem G_lmul (h : Cx X l0 E own cc ret nL rm) {x y : Int64} (hd : decode cc pc = .ok (.lmul, 1)) {pc' : Nat} (hp : pc + 1 = pc') (k : G X E cs pc' L (.long (x * y) :: st) M) : G X E cs pc L (.long y :: .long x :: st) M := by
  subst hp
  obtain ⟨p, l, e, R, s, m, args, below, meth, c, Q, nl⟩ := X
  obtain ⟨hx, hb, hr, hml, hown, hts, hlk, hK, hB, rfl, rfl, rfl, hN, hZ⟩ := h
  intro H locs ls hW hM hl
  exact lv_lmul hx hb hd (k H locs ls hW hM hl)
theorem G_land (h : Cx X l0 E own cc ret nL rm) {x y : Int64} (hd : decode cc pc = .ok (.land, 1)) {pc' : Nat} (hp : pc + 1 = pc') (k : G X E cs pc' L (.long (x &&& y) :: st) M) : G X E cs pc L (.long y :: .long x :: st) M := by
  subst hp
  obtain ⟨p, l, e, R, s, m, args, below, meth, c, Q, nl⟩ := X
  obtain ⟨hx, hb, hr, hml, hown, hts, hlk, hK, hB, rfl, rfl, rfl, hN, hZ⟩ := h
  intro H locs ls hW hM hl
  exact lv_land hx hb hd (k H locs ls hW hM hl)
theorem G_lor (h : Cx X l0 E own cc ret nL rm) {x y : Int64} (hd : decode cc pc = .ok (.lor, 1)) {pc' : Nat} (hp : pc + 1 = pc') (k : G X E cs pc' L (.long (x ||| y) :: st) M) : G X E cs pc L (.long y :: .long x :: st) M := by
  subst hp
  obtain ⟨p, l, e, R, s, m, args, below, meth, c, Q, nl⟩ := X
  obtain ⟨hx, hb, hr, hml, hown, hts, hlk, hK, hB, rfl, rfl, rfl, hN, hZ⟩ := h
  intro H locs ls hW hM hl
  exact lv_lor hx hb hd (k H locs ls hW hM hl)
theorem G_ldiv (h : Cx X l0 E own cc ret nL rm) {x y : Int64} (hd : decode cc pc = .ok (.ldiv, 1)) (hne : ¬ y = 0) {pc' : Nat} (hp : pc + 1 = pc') (k : G X E cs pc' L (.long (x / y) :: st) M) : G X E cs pc L (.long y :: .long x :: st) M := by
  subst hp
  obtain ⟨p, l, e, R, s, m, args, below, meth, c, Q, nl⟩ := X
  obtain ⟨hx, hb, hr, hml, hown, hts, hlk, hK, hB, rfl, rfl, rfl, hN, hZ⟩ := h
  intro H locs ls hW hM hl
  exact lv_ldiv hx hb hd hne (k H locs ls hW hM hl)
theorem G_lrem (h : Cx X l0 E own cc ret nL rm) {x y : Int64} (hd : decode cc pc = .ok (.lrem, 1)) (hne : ¬ y = 0) {pc' : Nat} (hp : pc + 1 = pc') (k : G X E cs pc' L (.long (x - x / y * y) :: st) M) : G X E cs pc L (.long y :: .long x :: st) M := by
  subst hp
  obtain ⟨p, l, e, R, s, m, args, below, meth, c, Q, nl⟩ := X
  obtain ⟨hx, hb, hr, hml, hown, hts, hlk, hK, hB, rfl, rfl, rfl, hN, hZ⟩ := h
  intro H locs ls hW hM hl
  exact lv_lrem hx hb hd hne (k H locs ls hW hM hl)
theorem G_lshl (h : Cx X l0 E own cc ret nL rm) {x : Int64} {y : Int32} (hd : decode cc pc = .ok (.lshl, 1)) {pc' : Nat} (hp : pc + 1 = pc') (k : G X E cs pc' L (.long (x <<< (y.toInt64 &&& 63)) :: st) M) : G X E cs pc L (.int y :: .long x :: st) M := by
  subst hp
  obtain ⟨p, l, e, R, s, m, args, below, meth, c, Q, nl⟩ := X
  obtain ⟨hx, hb, hr, hml, hown, hts, hlk, hK, hB, rfl, rfl, rfl, hN, hZ⟩ := h
  intro H locs ls hW hM hl
  exact lv_lshl hx hb hd rfl (k H locs ls hW hM hl)
theorem G_lshr (h : Cx X l0 E own cc ret nL rm) {x : Int64} {y : Int32} (hd : decode cc pc = .ok (.lshr, 1)) {pc' : Nat} (hp : pc + 1 = pc') (k : G X E cs pc' L (.long (x >>> (y.toInt64 &&& 63)) :: st) M) : G X E cs pc L (.int y :: .long x :: st) M := by
  subst hp
  obtain ⟨p, l, e, R, s, m, args, below, meth, c, Q, nl⟩ := X
  obtain ⟨hx, hb, hr, hml, hown, hts, hlk, hK, hB, rfl, rfl, rfl, hN, hZ⟩ := h
  intro H locs ls hW hM hl
  exact lv_lshr hx hb hd rfl (k H locs ls hW hM hl)
theorem G_i2l (h : Cx X l0 E own cc ret nL rm) {x : Int32} (hd : decode cc pc = .ok (.i2l, 1)) {pc' : Nat} (hp : pc + 1 = pc') (k : G X E cs pc' L (.long x.toInt64 :: st) M) : G X E cs pc L (.int x :: st) M := by
  subst hp
  obtain ⟨p, l, e, R, s, m, args, below, meth, c, Q, nl⟩ := X
  obtain ⟨hx, hb, hr, hml, hown, hts, hlk, hK, hB, rfl, rfl, rfl, hN, hZ⟩ := h
  intro H locs ls hW hM hl
  exact lv_i2l hx hb hd rfl (k H locs ls hW hM hl)
theorem G_l2i (h : Cx X l0 E own cc ret nL rm) {x : Int64} (hd : decode cc pc = .ok (.l2i, 1)) {pc' : Nat} (hp : pc + 1 = pc') (k : G X E cs pc' L (.int x.toInt32 :: st) M) : G X E cs pc L (.long x :: st) M := by
  subst hp
  obtain ⟨p, l, e, R, s, m, args, below, meth, c, Q, nl⟩ := X
  obtain ⟨hx, hb, hr, hml, hown, hts, hlk, hK, hB, rfl, rfl, rfl, hN, hZ⟩ := h
  intro H locs ls hW hM hl
  exact lv_l2i hx hb hd rfl (k H locs ls hW hM hl)
theorem G_lcmp (h : Cx X l0 E own cc ret nL rm) {x y : Int64} (hd : decode cc pc = .ok (.lcmp, 1)) {pc' : Nat} (hp : pc + 1 = pc') (k : G X E cs pc' L (.int (lg_cmp x y) :: st) M) : G X E cs pc L (.long y :: .long x :: st) M := by
  subst hp
  obtain ⟨p, l, e, R, s, m, args, below, meth, c, Q, nl⟩ := X
  obtain ⟨hx, hb, hr, hml, hown, hts, hlk, hK, hB, rfl, rfl, rfl, hN, hZ⟩ := h
  intro H locs ls hW hM hl
  exact W.lcmp hx hb hd (k H locs ls hW hM hl)
theorem G_dup (h : Cx X l0 E own cc ret nL rm) {v : Value} (hd : decode cc pc = .ok (.dup, 1)) (hc : v.category = 1) {pc' : Nat} (hp : pc + 1 = pc') (k : G X E cs pc' L (v :: v :: st) M) : G X E cs pc L (v :: st) M := by
  subst hp
  obtain ⟨p, l, e, R, s, m, args, below, meth, c, Q, nl⟩ := X
  obtain ⟨hx, hb, hr, hml, hown, hts, hlk, hK, hB, rfl, rfl, rfl, hN, hZ⟩ := h
  intro H locs ls hW hM hl
  exact lv_dup hx hb hd hc (k H locs ls hW hM hl)
theorem G_dup2 (h : Cx X l0 E own cc ret nL rm) {va vb : Value} (hd : decode cc pc = .ok (.dup2, 1)) (hca : va.category = 1) (hcb : vb.category = 1) {pc' : Nat} (hp : pc + 1 = pc') (k : G X E cs pc' L (va :: vb :: va :: vb :: st) M) : G X E cs pc L (va :: vb :: st) M := by
  subst hp
  obtain ⟨p, l, e, R, s, m, args, below, meth, c, Q, nl⟩ := X
  obtain ⟨hx, hb, hr, hml, hown, hts, hlk, hK, hB, rfl, rfl, rfl, hN, hZ⟩ := h
  intro H locs ls hW hM hl
  exact lv_dup2_11 hx hb hd hca hcb (k H locs ls hW hM hl)
theorem G_pop (h : Cx X l0 E own cc ret nL rm) {v : Value} (hd : decode cc pc = .ok (.pop, 1)) (hc : v.category = 1) {pc' : Nat} (hp : pc + 1 = pc') (k : G X E cs pc' L st M) : G X E cs pc L (v :: st) M := by
  subst hp
  obtain ⟨p, l, e, R, s, m, args, below, meth, c, Q, nl⟩ := X
  obtain ⟨hx, hb, hr, hml, hown, hts, hlk, hK, hB, rfl, rfl, rfl, hN, hZ⟩ := h
  intro H locs ls hW hM hl
  exact lv_pop hx hb hd hc (k H locs ls hW hM hl)
theorem G_icmp_eq (h : Cx X l0 E own cc ret nL rm) {x y : Int32} {off : Int} {tgt pc' : Nat} (hd : decode cc pc = .ok (.if_icmp .eq off, 3)) (ht : (pc : Int) + off = (tgt : Int)) (hp : pc + 3 = pc') (kt : x = y → G X E cs tgt L st M) (kf : ¬ (x = y) → G X E cs pc' L st M) : G X E cs pc L (.int y :: .int x :: st) M := by
  subst hp
  obtain ⟨p, l, e, R, s, m, args, below, meth, c, Q, nl⟩ := X
  obtain ⟨hx, hb, hr, hml, hown, hts, hlk, hK, hB, rfl, rfl, rfl, hN, hZ⟩ := h
  intro H locs ls hW hM hl
  exact lv_icmp_eq hx hb hd ht (fun q => kt q H locs ls hW hM hl) (fun q => kf q H locs ls hW hM hl)
theorem G_if_eq (h : Cx X l0 E own cc ret nL rm) {x : Int32} {off : Int} {tgt pc' : Nat} (hd : decode cc pc = .ok (.ifCond .eq off, 3)) (ht : (pc : Int) + off = (tgt : Int)) (hp : pc + 3 = pc') (kt : x = 0 → G X E cs tgt L st M) (kf : ¬ (x = 0) → G X E cs pc' L st M) : G X E cs pc L (.int x :: st) M := by
  subst hp
  obtain ⟨p, l, e, R, s, m, args, below, meth, c, Q, nl⟩ := X
  obtain ⟨hx, hb, hr, hml, hown, hts, hlk, hK, hB, rfl, rfl, rfl, hN, hZ⟩ := h
  intro H locs ls hW hM hl
  exact lv_if_eq hx hb hd ht (fun q => kt q H locs ls hW hM hl) (fun q => kf q H locs ls hW hM hl)
theorem G_icmp_ne (h : Cx X l0 E own cc ret nL rm) {x y : Int32} {off : Int} {tgt pc' : Nat} (hd : decode cc pc = .ok (.if_icmp .ne off, 3)) (ht : (pc : Int) + off = (tgt : Int)) (hp : pc + 3 = pc') (kt : ¬ x = y → G X E cs tgt L st M) (kf : x = y → G X E cs pc' L st M) : G X E cs pc L (.int y :: .int x :: st) M := by
  subst hp
  obtain ⟨p, l, e, R, s, m, args, below, meth, c, Q, nl⟩ := X
  obtain ⟨hx, hb, hr, hml, hown, hts, hlk, hK, hB, rfl, rfl, rfl, hN, hZ⟩ := h
  intro H locs ls hW hM hl
  exact lv_icmp_ne hx hb hd ht (fun q => kt q H locs ls hW hM hl) (fun q => kf q H locs ls hW hM hl)
theorem G_if_ne (h : Cx X l0 E own cc ret nL rm) {x : Int32} {off : Int} {tgt pc' : Nat} (hd : decode cc pc = .ok (.ifCond .ne off, 3)) (ht : (pc : Int) + off = (tgt : Int)) (hp : pc + 3 = pc') (kt : ¬ x = 0 → G X E cs tgt L st M) (kf : x = 0 → G X E cs pc' L st M) : G X E cs pc L (.int x :: st) M := by
  subst hp
  obtain ⟨p, l, e, R, s, m, args, below, meth, c, Q, nl⟩ := X
  obtain ⟨hx, hb, hr, hml, hown, hts, hlk, hK, hB, rfl, rfl, rfl, hN, hZ⟩ := h
  intro H locs ls hW hM hl
  exact lv_if_ne hx hb hd ht (fun q => kt q H locs ls hW hM hl) (fun q => kf q H locs ls hW hM hl)
theorem G_icmp_lt (h : Cx X l0 E own cc ret nL rm) {x y : Int32} {off : Int} {tgt pc' : Nat} (hd : decode cc pc = .ok (.if_icmp .lt off, 3)) (ht : (pc : Int) + off = (tgt : Int)) (hp : pc + 3 = pc') (kt : x < y → G X E cs tgt L st M) (kf : ¬ (x < y) → G X E cs pc' L st M) : G X E cs pc L (.int y :: .int x :: st) M := by
  subst hp
  obtain ⟨p, l, e, R, s, m, args, below, meth, c, Q, nl⟩ := X
  obtain ⟨hx, hb, hr, hml, hown, hts, hlk, hK, hB, rfl, rfl, rfl, hN, hZ⟩ := h
  intro H locs ls hW hM hl
  exact lv_icmp_lt hx hb hd ht (fun q => kt q H locs ls hW hM hl) (fun q => kf q H locs ls hW hM hl)
theorem G_if_lt (h : Cx X l0 E own cc ret nL rm) {x : Int32} {off : Int} {tgt pc' : Nat} (hd : decode cc pc = .ok (.ifCond .lt off, 3)) (ht : (pc : Int) + off = (tgt : Int)) (hp : pc + 3 = pc') (kt : x < 0 → G X E cs tgt L st M) (kf : ¬ (x < 0) → G X E cs pc' L st M) : G X E cs pc L (.int x :: st) M := by
  subst hp
  obtain ⟨p, l, e, R, s, m, args, below, meth, c, Q, nl⟩ := X
  obtain ⟨hx, hb, hr, hml, hown, hts, hlk, hK, hB, rfl, rfl, rfl, hN, hZ⟩ := h
  intro H locs ls hW hM hl
  exact lv_if_lt hx hb hd ht (fun q => kt q H locs ls hW hM hl) (fun q => kf q H locs ls hW hM hl)
theorem G_icmp_ge (h : Cx X l0 E own cc ret nL rm) {x y : Int32} {off : Int} {tgt pc' : Nat} (hd : decode cc pc = .ok (.if_icmp .ge off, 3)) (ht : (pc : Int) + off = (tgt : Int)) (hp : pc + 3 = pc') (kt : y ≤ x → G X E cs tgt L st M) (kf : ¬ (y ≤ x) → G X E cs pc' L st M) : G X E cs pc L (.int y :: .int x :: st) M := by
  subst hp
  obtain ⟨p, l, e, R, s, m, args, below, meth, c, Q, nl⟩ := X
  obtain ⟨hx, hb, hr, hml, hown, hts, hlk, hK, hB, rfl, rfl, rfl, hN, hZ⟩ := h
  intro H locs ls hW hM hl
  exact lv_icmp_ge hx hb hd ht (fun q => kt q H locs ls hW hM hl) (fun q => kf q H locs ls hW hM hl)
theorem G_if_ge (h : Cx X l0 E own cc ret nL rm) {x : Int32} {off : Int} {tgt pc' : Nat} (hd : decode cc pc = .ok (.ifCond .ge off, 3)) (ht : (pc : Int) + off = (tgt : Int)) (hp : pc + 3 = pc') (kt : 0 ≤ x → G X E cs tgt L st M) (kf : ¬ (0 ≤ x) → G X E cs pc' L st M) : G X E cs pc L (.int x :: st) M := by
  subst hp
  obtain ⟨p, l, e, R, s, m, args, below, meth, c, Q, nl⟩ := X
  obtain ⟨hx, hb, hr, hml, hown, hts, hlk, hK, hB, rfl, rfl, rfl, hN, hZ⟩ := h
  intro H locs ls hW hM hl
  exact lv_if_ge hx hb hd ht (fun q => kt q H locs ls hW hM hl) (fun q => kf q H locs ls hW hM hl)
theorem G_icmp_gt (h : Cx X l0 E own cc ret nL rm) {x y : Int32} {off : Int} {tgt pc' : Nat} (hd : decode cc pc = .ok (.if_icmp .gt off, 3)) (ht : (pc : Int) + off = (tgt : Int)) (hp : pc + 3 = pc') (kt : y < x → G X E cs tgt L st M) (kf : ¬ (y < x) → G X E cs pc' L st M) : G X E cs pc L (.int y :: .int x :: st) M := by
  subst hp
  obtain ⟨p, l, e, R, s, m, args, below, meth, c, Q, nl⟩ := X
  obtain ⟨hx, hb, hr, hml, hown, hts, hlk, hK, hB, rfl, rfl, rfl, hN, hZ⟩ := h
  intro H locs ls hW hM hl
  exact lv_icmp_gt hx hb hd ht (fun q => kt q H locs ls hW hM hl) (fun q => kf q H locs ls hW hM hl)
theorem G_if_gt (h : Cx X l0 E own cc ret nL rm) {x : Int32} {off : Int} {tgt pc' : Nat} (hd : decode cc pc = .ok (.ifCond .gt off, 3)) (ht : (pc : Int) + off = (tgt : Int)) (hp : pc + 3 = pc') (kt : 0 < x → G X E cs tgt L st M) (kf : ¬ (0 < x) → G X E cs pc' L st M) : G X E cs pc L (.int x :: st) M := by
  subst hp
  obtain ⟨p, l, e, R, s, m, args, below, meth, c, Q, nl⟩ := X
  obtain ⟨hx, hb, hr, hml, hown, hts, hlk, hK, hB, rfl, rfl, rfl, hN, hZ⟩ := h
  intro H locs ls hW hM hl
  exact lv_if_gt hx hb hd ht (fun q => kt q H locs ls hW hM hl) (fun q => kf q H locs ls hW hM hl)
theorem G_icmp_le (h : Cx X l0 E own cc ret nL rm) {x y : Int32} {off : Int} {tgt pc' : Nat} (hd : decode cc pc = .ok (.if_icmp .le off, 3)) (ht : (pc : Int) + off = (tgt : Int)) (hp : pc + 3 = pc') (kt : x ≤ y → G X E cs tgt L st M) (kf : ¬ (x ≤ y) → G X E cs pc' L st M) : G X E cs pc L (.int y :: .int x :: st) M := by
  subst hp
  obtain ⟨p, l, e, R, s, m, args, below, meth, c, Q, nl⟩ := X
  obtain ⟨hx, hb, hr, hml, hown, hts, hlk, hK, hB, rfl, rfl, rfl, hN, hZ⟩ := h
  intro H locs ls hW hM hl
  exact lv_icmp_le hx hb hd ht (fun q => kt q H locs ls hW hM hl) (fun q => kf q H locs ls hW hM hl)
theorem G_if_le (h : Cx X l0 E own cc ret nL rm) {x : Int32} {off : Int} {tgt pc' : Nat} (hd : decode cc pc = .ok (.ifCond .le off, 3)) (ht : (pc : Int) + off = (tgt : Int)) (hp : pc + 3 = pc') (kt : x ≤ 0 → G X E cs tgt L st M) (kf : ¬ (x ≤ 0) → G X E cs pc' L st M) : G X E cs pc L (.int x :: st) M := by
  subst hp
  obtain ⟨p, l, e, R, s, m, args, below, meth, c, Q, nl⟩ := X
  obtain ⟨hx, hb, hr, hml, hown, hts, hlk, hK, hB, rfl, rfl, rfl, hN, hZ⟩ := h
  intro H locs ls hW hM hl
  exact lv_if_le hx hb hd ht (fun q => kt q H locs ls hW hM hl) (fun q => kf q H locs ls hW hM hl)
theorem G_goto (h : Cx X l0 E own cc ret nL rm) {off : Int} {tgt : Nat} (hd : decode cc pc = .ok (.goto off, 3)) (ht : (pc : Int) + off = (tgt : Int)) (k : G X E cs tgt L st M) : G X E cs pc L st M := by
  obtain ⟨p, l, e, R, s, m, args, below, meth, c, Q, nl⟩ := X
  obtain ⟨hx, hb, hr, hml, hown, hts, hlk, hK, hB, rfl, rfl, rfl, hN, hZ⟩ := h
  intro H locs ls hW hM hl
  exact lv_goto hx hb hd ht (k H locs ls hW hM hl)
end Rows
end Frame
