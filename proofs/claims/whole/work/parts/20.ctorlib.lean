/-! constructors: what they do to the world -/
section Ctor
/-- what each field of references holds once its object is whole: its number, the kind, a row's length -/
def rqT : Nat → List (Nat × Nat × Option Nat) := fun c => match c with
  | 0 => [(1, 9, some 6), (2, 9, some 6), (3, 4, none), (4, 13, some 8), (6, 3, none), (7, 3, none), (8, 3, none), (9, 5, none), (10, 1, none)]
  | 2 => [(0, 9, some 40), (1, 9, some 256), (2, 9, some 256)]
  | 3 => [(1, 9, some 24)]
  | 4 => [(0, 9, some 8), (1, 9, some 6), (2, 9, some 6)]
  | 6 => [(1, 9, some 150), (8, 9, some 8)]
  | 7 => [(0, 0, none), (1, 0, none), (2, 12, some 2), (3, 11, some 2), (4, 6, none), (5, 2, none)]
  | 8 => [(0, 9, some 3), (7, 9, some 6), (8, 9, some 6), (9, 9, some 6), (10, 9, some 6), (11, 9, some 8), (12, 9, some 18), (13, 9, some 24), (14, 9, some 24), (15, 9, some 150), (19, 9, some 300), (20, 9, some 176), (22, 9, some 22), (23, 10, some 164), (24, 9, some 24), (27, 9, some 600), (28, 9, some 2)]
  | 12 => [(0, 0, none), (1, 0, none)]
  | 13 => [(0, 4, none), (1, 4, none), (2, 4, none), (3, 4, none), (4, 4, none), (5, 4, none), (6, 4, none), (7, 4, none)]
  | _ => []
def okR (E : Env1) (q : Nat) (e : Nat × Nat × Option Nat) : Prop := eR E q e.1 = some (rr E q e.1) ∧ rr E q e.1 ∈ eL E ∧ eK E (rr E q e.1) = e.2.1 ∧ ∀ n, e.2.2 = some n → eN E (rr E q e.1) = n
def WFt (E : Env1) : Prop := ∀ q, q ∈ eL E → ∀ e, e ∈ rqT (eK E q) → okR E q e
theorem rqT_20 : ∀ c, 20 ≤ c → rqT c = [] := by
  intro c h
  unfold rqT
  split <;> first | omega | rfl
theorem rqT_lt : ∀ c e, e ∈ rqT c → e.2.1 < 20 := by
  intro c e h
  by_cases hc : c < 20
  · have h1 : ∀ c, c < 20 → (rqT c).all (fun e => decide (e.2.1 < 20)) = true := by decide +kernel
    exact of_decide_eq_true (List.all_eq_true.mp (h1 c hc) e h)
  · rw [rqT_20 c (by omega)] at h
    cases h
theorem WFt_K {E : Env1} (h : WFt E) {q c k d : Nat} (hq : isK E q c) (hm : (k, d, none) ∈ rqT c) : fK E q k d := by
  have := h q hq.1 (k, d, none) (by rw [hq.2]; exact hm)
  exact ⟨this.1, this.2.1, this.2.2.1⟩
theorem WFt_A {E : Env1} (h : WFt E) {q c k d n : Nat} (hq : isK E q c) (hm : (k, d, some n) ∈ rqT c) : fA E q k d n := by
  have := h q hq.1 (k, d, some n) (by rw [hq.2]; exact hm)
  exact ⟨this.1, this.2.1, this.2.2.1, this.2.2.2 n rfl⟩
theorem WF_of {E : Env1} (h : WFt E) : WF E := by
  refine ⟨fun q hq => ?_, fun q hq => ?_, fun q hq => ?_, fun q hq => ?_, fun q hq => ?_, fun q hq => ?_, fun q hq => ?_, fun q hq j hj => ?_, fun q hq j hj => ?_⟩
  · exact ⟨WFt_A h hq (by simp [rqT]), WFt_A h hq (by simp [rqT]), WFt_K h hq (by simp [rqT]), WFt_A h hq (by simp [rqT]), WFt_K h hq (by simp [rqT]), WFt_K h hq (by simp [rqT]), WFt_K h hq (by simp [rqT]), WFt_K h hq (by simp [rqT]), WFt_K h hq (by simp [rqT])⟩
  · exact ⟨WFt_A h hq (by simp [rqT]), WFt_A h hq (by simp [rqT]), WFt_A h hq (by simp [rqT])⟩
  · exact WFt_A h hq (by simp [rqT])
  · exact ⟨WFt_A h hq (by simp [rqT]), WFt_A h hq (by simp [rqT]), WFt_A h hq (by simp [rqT])⟩
  · exact ⟨WFt_A h hq (by simp [rqT]), WFt_A h hq (by simp [rqT])⟩
  · exact ⟨WFt_K h hq (by simp [rqT]), WFt_K h hq (by simp [rqT]), WFt_A h hq (by simp [rqT]), WFt_A h hq (by simp [rqT]), WFt_K h hq (by simp [rqT]), WFt_K h hq (by simp [rqT])⟩
  · exact ⟨WFt_A h hq (by simp [rqT]), WFt_A h hq (by simp [rqT]), WFt_A h hq (by simp [rqT]), WFt_A h hq (by simp [rqT]), WFt_A h hq (by simp [rqT]), WFt_A h hq (by simp [rqT]), WFt_A h hq (by simp [rqT]), WFt_A h hq (by simp [rqT]), WFt_A h hq (by simp [rqT]), WFt_A h hq (by simp [rqT]), WFt_A h hq (by simp [rqT]), WFt_A h hq (by simp [rqT]), WFt_A h hq (by simp [rqT]), WFt_A h hq (by simp [rqT]), WFt_A h hq (by simp [rqT]), WFt_A h hq (by simp [rqT]), WFt_A h hq (by simp [rqT])⟩
  · have hk : isK E q 12 := ⟨hq.1, hq.2.1⟩
    rcases (show j = 0 ∨ j = 1 by omega) with rfl | rfl <;> exact WFt_K h hk (by simp [rqT])
  · have hk : isK E q 13 := ⟨hq.1, hq.2.1⟩
    have : fK E q j 4 := by
      rcases (show j = 0 ∨ j = 1 ∨ j = 2 ∨ j = 3 ∨ j = 4 ∨ j = 5 ∨ j = 6 ∨ j = 7 by omega) with rfl | rfl | rfl | rfl | rfl | rfl | rfl | rfl <;> exact WFt_K h hk (by simp [rqT])
    exact ⟨_, this.1⟩
theorem WFt_step {E1 E2 : Env1} (h : WFt E1) (hold : ∀ q, q ∈ eL E1 → q ∈ eL E2 ∧ eN E2 q = eN E1 q ∧ (eK E1 q < 20 → eK E2 q = eK E1 q ∧ ∀ k, eR E2 q k = eR E1 q k))
    (hnew : ∀ q, q ∈ eL E2 → (q ∈ eL E1 ∧ eK E1 q < 20) ∨ ∀ e, e ∈ rqT (eK E2 q) → okR E2 q e) : WFt E2 := by
  intro q hq e he
  rcases hnew q hq with ⟨h1, h2⟩ | h1
  · obtain ⟨-, -, g3⟩ := hold q h1
    obtain ⟨k1, k2⟩ := g3 h2
    rw [k1] at he
    obtain ⟨a1, a2, a3, a4⟩ := h q h1 e he
    have er : rr E2 q e.1 = rr E1 q e.1 := by
      unfold rr
      rw [k2]
    obtain ⟨b1, b2, b3⟩ := hold _ a2
    refine ⟨by rw [k2, er]; exact a1, by rw [er]; exact b1, ?_, fun n hn => ?_⟩
    · rw [er, (b3 (by rw [a3]; exact rqT_lt _ _ he)).1]
      exact a3
    · rw [er, b2]
      exact a4 n hn
  · exact h1 e he
/-- from (E, M) to (E', M'): the object th is worked on, all else that is new hangs on it, as a tree -/
def Gr (E : Env1) (M : Mem) (E' : Env1) (M' : Mem) (th : Nat) : Prop :=
  Same E E' ∧
  (∀ q, q ∈ eL E → q ∈ eL E' ∧ eN E' q = eN E q ∧ (q ≠ th → eK E' q = eK E q ∧ (∀ k, eR E' q k = eR E q k) ∧ (∀ k, mi M' q k = mi M q k) ∧ (∀ k, ml M' q k = ml M q k) ∧ ∀ k, mr M' q k = mr M q k)) ∧
  (∀ q k a, q ∈ eL E' → (q ∉ eL E ∨ q = th) → eR E' q k = some a → a ∈ eL E' ∧ a ∉ eL E) ∧
  (∀ q k q' k' a, q ∈ eL E' → q' ∈ eL E' → (q ∉ eL E ∨ q = th) → (q' ∉ eL E ∨ q' = th) → eR E' q k = some a → eR E' q' k' = some a → q = q' ∧ k = k') ∧
  (WFt E → WFt E') ∧
  (∀ q, q ∈ eL E' → q ∉ eL E → eK E' q = 13 → ∀ j, j < 8 → mr M' q j = rr E' q j)
theorem gr_rf {E : Env1} {M : Mem} {th : Nat} (h : ∀ k, eR E th k = none) : Gr E M E M th := by
  refine ⟨Same.rf, fun q hq => ⟨hq, rfl, fun _ => ⟨rfl, fun _ => rfl, fun _ => rfl, fun _ => rfl, fun _ => rfl⟩⟩, fun q k a hq hn hr => ?_, fun q k q' k' a hq hq' hn hn' hr hr' => ?_, fun z => z, fun q hq hn => absurd hq hn⟩
  · rcases hn with hn | rfl
    · exact absurd hq hn
    · rw [h k] at hr; cases hr
  · rcases hn with hn | rfl
    · exact absurd hq hn
    · rw [h k] at hr; cases hr
theorem gr_wi {E E' : Env1} {M M' : Mem} {th k : Nat} {v : Int32} (h : Gr E M E' M' th) : Gr E M E' (wi M' th k v) th := by
  obtain ⟨h1, h2, h3, h4, h5, h6⟩ := h
  refine ⟨h1, fun q hq => ⟨(h2 q hq).1, (h2 q hq).2.1, fun hne => ?_⟩, h3, h4, h5, h6⟩
  obtain ⟨a1, a2, a3, a4, a5⟩ := (h2 q hq).2.2 hne
  exact ⟨a1, a2, fun j => by rw [mi_wi, if_neg (fun z => hne z.1)]; exact a3 j, a4, a5⟩
theorem gr_wl {E E' : Env1} {M M' : Mem} {th k : Nat} {v : Int64} (h : Gr E M E' M' th) : Gr E M E' (wl M' th k v) th := by
  obtain ⟨h1, h2, h3, h4, h5, h6⟩ := h
  refine ⟨h1, fun q hq => ⟨(h2 q hq).1, (h2 q hq).2.1, fun hne => ?_⟩, h3, h4, h5, h6⟩
  obtain ⟨a1, a2, a3, a4, a5⟩ := (h2 q hq).2.2 hne
  exact ⟨a1, a2, a3, fun j => by rw [ml_wl, if_neg (fun z => hne z.1)]; exact a4 j, a5⟩
theorem WFt_addO {E : Env1} {q kd n : Nat} (hq : q ∉ eL E) (hkd : kd = 9 ∨ kd = 10 ∨ kd = 11 ∨ 20 ≤ kd) (h : WFt E) : WFt (addO E q kd n) := by
  refine WFt_step h (fun x hx => ?_) (fun x hx => ?_)
  · have hne : x ≠ q := fun z => hq (z ▸ hx)
    exact ⟨List.mem_append_left _ hx, va_up_ne _ _ hne, fun _ => ⟨va_up_ne _ _ hne, fun k => if_neg hne⟩⟩
  · by_cases hne : x = q
    · right
      intro e he
      rw [show eK (addO E q kd n) x = kd by rw [hne]; exact va_up_self _ _ _] at he
      rcases hkd with rfl | rfl | rfl | h20
      · cases he
      · cases he
      · cases he
      · rw [rqT_20 _ h20] at he; cases he
    · have hx1 : x ∈ eL E := by
        rcases List.mem_append.mp hx with z | z
        · exact z
        · exact absurd (List.mem_singleton.mp z) hne
      by_cases h20 : eK E x < 20
      · exact Or.inl ⟨hx1, h20⟩
      · right
        intro e he
        rw [show eK (addO E q kd n) x = eK E x from va_up_ne _ _ hne, rqT_20 _ (by omega)] at he
        cases he
theorem WFt_setR {E : Env1} {p k v : Nat} (hp : 20 ≤ eK E p) (h : WFt E) : WFt (setR E p k v) := by
  refine WFt_step h (fun x hx => ⟨hx, rfl, fun hlt => ⟨rfl, fun j => if_neg (fun z => ?_)⟩⟩) (fun x hx => ?_)
  · rw [z.1] at hlt; omega
  · by_cases h20 : eK E x < 20
    · exact Or.inl ⟨hx, h20⟩
    · right
      intro e he
      rw [show eK (setR E p k v) x = eK E x from rfl, rqT_20 _ (by omega)] at he
      cases he
/-- a child, made and worked on by itself, is hung at place k of p -/
theorem gr_child {E E1 E3 : Env1} {M M1 M3 M4 : Mem} {th q kd n p k : Nat} (h1 : Gr E M E1 M1 th) (hth : th ∈ eL E) (hq : q ∉ eL E1) (hkd : kd = 9 ∨ kd = 10 ∨ kd = 11 ∨ 20 ≤ kd) (h3 : Gr (addO E1 q kd n) (clr M1 q) E3 M3 q)
    (hp : p ∈ eL E1) (hpn : p = th ∨ p ∉ eL E) (hraw : 20 ≤ eK E1 p) (hnone : eR E1 p k = none) (h13 : eK E3 q ≠ 13) (hM4 : M4 = M3 ∨ M4 = wr M3 p k q) : Gr E M (setR E3 p k q) M4 th := by
  obtain ⟨s1, o1, t1, i1, w1, p1⟩ := h1
  obtain ⟨s3, o3, t3, i3, w3, p3⟩ := h3
  have hpq : p ≠ q := fun z => hq (z ▸ hp)
  have up : ∀ x, x ∈ eL E1 → x ∈ eL (addO E1 q kd n) := fun x hx => List.mem_append_left _ hx
  have q2 : q ∈ eL (addO E1 q kd n) := List.mem_append_right _ (List.mem_singleton.mpr rfl)
  have miM4 : ∀ x j, mi M4 x j = mi M3 x j := by
    intro x j
    rcases hM4 with rfl | rfl <;> rfl
  have mlM4 : ∀ x j, ml M4 x j = ml M3 x j := by
    intro x j
    rcases hM4 with rfl | rfl <;> rfl
  have mrM4 : ∀ x j, x ≠ p → mr M4 x j = mr M3 x j := by
    intro x j hx
    rcases hM4 with rfl | rfl
    · rfl
    · rw [mr_wr, if_neg (fun z => hx z.1)]
  have at1 : ∀ x, x ∈ eL E1 → x ∈ eL E3 ∧ eN E3 x = eN E1 x ∧ eK E3 x = eK E1 x ∧ (∀ j, eR E3 x j = eR E1 x j) ∧ (∀ j, mi M3 x j = mi M1 x j) ∧ (∀ j, ml M3 x j = ml M1 x j) ∧ ∀ j, mr M3 x j = mr M1 x j := by
    intro x hx
    have hne : x ≠ q := fun z => hq (z ▸ hx)
    obtain ⟨a1, a2, a3⟩ := o3 x (up x hx)
    obtain ⟨b1, b2, b3, b4, b5⟩ := a3 hne
    exact ⟨a1, a2.trans (va_up_ne _ _ hne), b1.trans (va_up_ne _ _ hne), fun j => (b2 j).trans (if_neg hne), fun j => (b3 j).trans (if_neg hne), fun j => (b4 j).trans (if_neg hne), fun j => b5 j⟩
  have q3 : q ∈ eL E3 := (o3 q q2).1
  have nE : ∀ x, x ∈ eL E → x ∈ eL E1 := fun x hx => (o1 x hx).1
  have nb : ∀ x, x ∉ eL E1 → x ∉ eL (addO E1 q kd n) ∨ x = q := by
    intro x hx
    by_cases z : x = q
    · exact Or.inr z
    · left
      intro y
      rcases List.mem_append.mp y with y | y
      · exact hx y
      · exact z (List.mem_singleton.mp y)
  have rS : ∀ x j, ¬ (x = p ∧ j = k) → eR (setR E3 p k q) x j = eR E3 x j := fun x j z => if_neg z
  have rP : eR (setR E3 p k q) p k = some q := if_pos ⟨rfl, rfl⟩
  refine ⟨s1.tr ((show Same E1 (addO E1 q kd n) from ⟨rfl, rfl, rfl, rfl, rfl⟩).tr (s3.tr ⟨rfl, rfl, rfl, rfl, rfl⟩)), fun x hx => ?_, fun x j a hx hn hr => ?_, fun x j x' j' a hx hx' hn hn' hr hr' => ?_, fun z => ?_, fun x hx hn h13x j hj => ?_⟩
  · obtain ⟨a1, a2, a3⟩ := o1 x hx
    obtain ⟨b1, b2, b3, b4, b5, b6, b7⟩ := at1 x a1
    refine ⟨b1, b2.trans a2, fun hne => ?_⟩
    obtain ⟨c1, c2, c3, c4, c5⟩ := a3 hne
    have hxp : x ≠ p := by
      rcases hpn with z | z
      · exact fun y => hne (y.trans z)
      · exact fun y => z (y ▸ hx)
    exact ⟨b3.trans c1, fun j => (rS x j (fun z => hxp z.1)).trans ((b4 j).trans (c2 j)), fun j => (miM4 x j).trans ((b5 j).trans (c3 j)), fun j => (mlM4 x j).trans ((b6 j).trans (c4 j)), fun j => (mrM4 x j hxp).trans ((b7 j).trans (c5 j))⟩
  · by_cases hxk : x = p ∧ j = k
    · obtain ⟨rfl, rfl⟩ := hxk
      rw [rP] at hr
      cases hr
      exact ⟨q3, fun z => hq (nE _ z)⟩
    · rw [rS x j hxk] at hr
      by_cases hx1 : x ∈ eL E1
      · rw [(at1 x hx1).2.2.2.1 j] at hr
        obtain ⟨a1, a2⟩ := t1 x j a hx1 hn hr
        exact ⟨(at1 a a1).1, a2⟩
      · obtain ⟨a1, a2⟩ := t3 x j a hx (nb x hx1) hr
        exact ⟨a1, fun z => a2 (up _ (nE _ z))⟩
  · have away : ∀ y i, y ∈ eL E3 → (y ∉ eL E ∨ y = th) → eR E3 y i = some q → False := by
      intro y i hy hyn hyr
      by_cases hy1 : y ∈ eL E1
      · rw [(at1 y hy1).2.2.2.1 i] at hyr
        exact hq (t1 y i q hy1 hyn hyr).1
      · exact (t3 y i q hy (nb y hy1) hyr).2 q2
    by_cases hxk : x = p ∧ j = k
    · by_cases hxk' : x' = p ∧ j' = k
      · exact ⟨hxk.1.trans hxk'.1.symm, hxk.2.trans hxk'.2.symm⟩
      · obtain ⟨rfl, rfl⟩ := hxk
        rw [rP] at hr
        cases hr
        rw [rS x' j' hxk'] at hr'
        exact (away x' j' hx' hn' hr').elim
    · rw [rS x j hxk] at hr
      by_cases hxk' : x' = p ∧ j' = k
      · obtain ⟨rfl, rfl⟩ := hxk'
        rw [rP] at hr'
        cases hr'
        exact (away x j hx hn hr).elim
      · rw [rS x' j' hxk'] at hr'
        by_cases hx1 : x ∈ eL E1
        · by_cases hx1' : x' ∈ eL E1
          · rw [(at1 x hx1).2.2.2.1 j] at hr
            rw [(at1 x' hx1').2.2.2.1 j'] at hr'
            exact i1 x j x' j' a hx1 hx1' hn hn' hr hr'
          · rw [(at1 x hx1).2.2.2.1 j] at hr
            exact absurd (up _ (t1 x j a hx1 hn hr).1) (t3 x' j' a hx' (nb x' hx1') hr').2
        · by_cases hx1' : x' ∈ eL E1
          · rw [(at1 x' hx1').2.2.2.1 j'] at hr'
            exact absurd (up _ (t1 x' j' a hx1' hn' hr').1) (t3 x j a hx (nb x hx1) hr).2
          · exact i3 x j x' j' a hx hx' (nb x hx1) (nb x' hx1') hr hr'
  · exact WFt_setR (by rw [(at1 p hp).2.2.1]; exact hraw) (w3 (WFt_addO hq hkd (w1 z)))
  · have hxp : x ≠ p := by
      intro z
      rw [z, show eK (setR E3 p k q) p = eK E3 p from rfl, (at1 p hp).2.2.1] at h13x
      omega
    have er : rr (setR E3 p k q) x j = rr E3 x j := by
      unfold rr
      rw [rS x j (fun z => hxp z.1)]
    rw [mrM4 x j hxp, er]
    by_cases hx1 : x ∈ eL E1
    · obtain ⟨b1, b2, b3, b4, b5, b6, b7⟩ := at1 x hx1
      have er1 : rr E3 x j = rr E1 x j := by
        unfold rr
        rw [b4]
      rw [b7 j, er1]
      exact p1 x hx1 hn (b3.symm.trans h13x) j hj
    · refine p3 x hx (fun z => ?_) h13x j hj
      rcases List.mem_append.mp z with y | y
      · exact hx1 y
      · rw [List.mem_singleton.mp y] at h13x
        exact h13 h13x
/-- what a step on p leaves of what was there before -/
def Keep (E1 : Env1) (M1 : Mem) (E4 : Env1) (M4 : Mem) (p : Nat) : Prop := ∀ x, x ∈ eL E1 → x ∈ eL E4 ∧ eK E4 x = eK E1 x ∧ eN E4 x = eN E1 x ∧ (x ≠ p → (∀ k, eR E4 x k = eR E1 x k) ∧ (∀ k, mr M4 x k = mr M1 x k) ∧ (∀ k, mi M4 x k = mi M1 x k) ∧ ∀ k, ml M4 x k = ml M1 x k)
theorem keep_child {E1 E3 : Env1} {M1 M3 M4 : Mem} {q kd n p k : Nat} (hq : q ∉ eL E1) (h3 : Gr (addO E1 q kd n) (clr M1 q) E3 M3 q) (hM4 : M4 = M3 ∨ M4 = wr M3 p k q) : Keep E1 M1 (setR E3 p k q) M4 p := by
  obtain ⟨s3, o3, -⟩ := h3
  intro x hx
  have hne : x ≠ q := fun z => hq (z ▸ hx)
  obtain ⟨a1, a2, a3⟩ := o3 x (List.mem_append_left _ hx)
  obtain ⟨b1, b2, b3, b4, b5⟩ := a3 hne
  refine ⟨a1, b1.trans (va_up_ne _ _ hne), a2.trans (va_up_ne _ _ hne), fun hp => ⟨fun j => (if_neg (fun z => hp z.1)).trans ((b2 j).trans (if_neg hne)), fun j => ?_, fun j => ?_, fun j => ?_⟩⟩
  · rcases hM4 with rfl | rfl
    · exact b5 j
    · rw [mr_wr, if_neg (fun z => hp z.1)]; exact b5 j
  · rcases hM4 with rfl | rfl <;> exact (b3 j).trans (if_neg hne)
  · rcases hM4 with rfl | rfl <;> exact (b4 j).trans (if_neg hne)
theorem keep_p {E1 E3 : Env1} {M1 M3 M4 : Mem} {q kd n p k : Nat} (hq : q ∉ eL E1) (hp : p ∈ eL E1) (h3 : Gr (addO E1 q kd n) (clr M1 q) E3 M3 q) (hM4 : M4 = M3 ∨ M4 = wr M3 p k q) : ∀ j, mi M4 p j = mi M1 p j ∧ ml M4 p j = ml M1 p j := by
  obtain ⟨s3, o3, -⟩ := h3
  have hne : p ≠ q := fun z => hq (z ▸ hp)
  obtain ⟨b1, b2, b3, b4, b5⟩ := (o3 p (List.mem_append_left _ hp)).2.2 hne
  intro j
  rcases hM4 with rfl | rfl <;> exact ⟨(b3 j).trans (if_neg hne), (b4 j).trans (if_neg hne)⟩
theorem keep_wi {E : Env1} {M : Mem} {p k : Nat} {v : Int32} : Keep E M E (wi M p k v) p := fun x hx => ⟨hx, rfl, rfl, fun hp => ⟨fun _ => rfl, fun _ => rfl, fun j => by rw [mi_wi, if_neg (fun z => hp z.1)], fun _ => rfl⟩⟩
theorem keep_wl {E : Env1} {M : Mem} {p k : Nat} {v : Int64} : Keep E M E (wl M p k v) p := fun x hx => ⟨hx, rfl, rfl, fun hp => ⟨fun _ => rfl, fun _ => rfl, fun _ => rfl, fun j => by rw [ml_wl, if_neg (fun z => hp z.1)]⟩⟩
theorem Keep.tr {E1 E2 E3 : Env1} {M1 M2 M3 : Mem} {p : Nat} (h : Keep E1 M1 E2 M2 p) (h2 : Keep E2 M2 E3 M3 p) : Keep E1 M1 E3 M3 p := by
  intro x hx
  obtain ⟨a1, a2, a3, a4⟩ := h x hx
  obtain ⟨b1, b2, b3, b4⟩ := h2 x a1
  exact ⟨b1, b2.trans a2, b3.trans a3, fun hp => ⟨fun k => ((b4 hp).1 k).trans ((a4 hp).1 k), fun k => ((b4 hp).2.1 k).trans ((a4 hp).2.1 k), fun k => ((b4 hp).2.2.1 k).trans ((a4 hp).2.2.1 k), fun k => ((b4 hp).2.2.2 k).trans ((a4 hp).2.2.2 k)⟩⟩
theorem Keep.K {E1 E2 : Env1} {M1 M2 : Mem} {p q c : Nat} (h : Keep E1 M1 E2 M2 p) (hq : isK E1 q c) : isK E2 q c := ⟨(h q hq.1).1, (h q hq.1).2.1.trans hq.2⟩
theorem Keep.A {E1 E2 : Env1} {M1 M2 : Mem} {p q c n : Nat} (h : Keep E1 M1 E2 M2 p) (hq : isA E1 q c n) : isA E2 q c n := ⟨(h q hq.1).1, (h q hq.1).2.1.trans hq.2.1, (h q hq.1).2.2.1.trans hq.2.2⟩
theorem gr_mark {E E1 : Env1} {M M1 : Mem} {th x c : Nat} (h : Gr E M E1 M1 th) (hx : x ∈ eL E1) (hxn : x = th ∨ x ∉ eL E) (hraw : 20 ≤ eK E1 x) (hok : ∀ e, e ∈ rqT c → okR E1 x e) (h13 : c = 13 → ∀ j, j < 8 → mr M1 x j = rr E1 x j) : Gr E M (setK E1 x c) M1 th := by
  obtain ⟨s1, o1, t1, i1, w1, p1⟩ := h
  refine ⟨s1.tr ⟨rfl, rfl, rfl, rfl, rfl⟩, fun y hy => ?_, t1, i1, fun z => ?_, fun y hy hn h13y j hj => ?_⟩
  · obtain ⟨a1, a2, a3⟩ := o1 y hy
    refine ⟨a1, a2, fun hne => ?_⟩
    obtain ⟨b1, b2⟩ := a3 hne
    have hyx : y ≠ x := by
      rcases hxn with z | z
      · exact fun w => hne (w.trans z)
      · exact fun w => z (w ▸ hy)
    exact ⟨(va_up_ne _ _ hyx).trans b1, b2⟩
  · refine WFt_step (w1 z) (fun y hy => ⟨hy, rfl, fun hlt => ⟨va_up_ne _ _ (fun w => by rw [w] at hlt; omega), fun _ => rfl⟩⟩) (fun y hy => ?_)
    by_cases hyx : y = x
    · right
      intro e he
      subst hyx
      rw [show eK (setK E1 y c) y = c from va_up_self _ _ _] at he
      obtain ⟨a1, a2, a3, a4⟩ := hok e he
      refine ⟨a1, a2, ?_, a4⟩
      refine (va_up_ne _ _ (fun w => ?_)).trans a3
      have := rqT_lt _ _ he
      rw [show rr (setK E1 y c) y e.1 = rr E1 y e.1 from rfl] at w
      rw [w] at a3
      omega
    · by_cases h20 : eK E1 y < 20
      · exact Or.inl ⟨hy, h20⟩
      · right
        intro e he
        rw [show eK (setK E1 x c) y = eK E1 y from va_up_ne _ _ hyx, rqT_20 _ (by omega)] at he
        cases he
  · by_cases hyx : y = x
    · subst hyx
      exact h13 ((va_up_self _ _ _).symm.trans h13y) j hj
    · exact p1 y hy hn ((va_up_ne _ _ hyx).symm.trans h13y) j hj
theorem WM_setK {E : Env1} {M : Mem} {q c : Nat} (hq : 20 ≤ eK E q) (hc : c ≠ 13) (h : WM E M) : WM (setK E q c) M := by
  intro x hx j hj
  have hxq : x ≠ q := by
    intro z
    subst z
    exact hc ((va_up_self _ _ _).symm.trans hx.2.1)
  have h1 := h x ⟨hx.1, (va_up_ne _ _ hxq).symm.trans hx.2.1, hx.2.2⟩ j hj
  exact ⟨h1.1, (va_up_ne _ _ (fun z => by rw [z] at h1; have := h1.2; omega)).trans h1.2⟩
/-! contracts of constructors -/
def initX (X : Ctx) : Prop := match X with | (_, _, _, _, _, _, _, _, meth, _, _, _) => meth.name = "<init>"
def CQn (E : Env1) (post : Env1 → Mem → Prop) : Array Value → State → Outcome → State → Prop := va_Qv (fun u : Env1 × Mem => Same E u.1 ∧ post u.1 u.2) (fun u t => PreU u.1 u.2 t) (eA E)
def RetC (X : Ctx) (E : Env1) (cc : ByteArray) (post : Env1 → Mem → Prop) (mc ms : Nat) : Prop := ∀ pc L E' M', decode cc pc = .ok (.return_, 1) → Same E E' → post E' M' → G X E' (mc, ms) pc L [] M'
theorem mtC {y : MethodName} {cc : ByteArray} {maxL : Nat} {as : List Value} {rm : Room} {E : Env1} {M : Mem} {post : Env1 → Mem → Prop} {mc ms : Nat} {L0 : List (Option Value)} (l0 : Launch) (hy : plainName y.cls = true) (hname : y.name = "<init>") (hlen : (lg_sl as).length ≤ maxL) (hL0 : pad maxL (a0 as) = L0)
    (body : ∀ X : Ctx, Cx X l0 E y.cls cc none maxL rm → initX X → RetC X E cc post mc ms → G X E (0, 0) 0 L0 [] M) : Met l0 y (wsA y cc maxL none) rm (CP E M as) (CQn E post) mc ms (eA E) := by
  refine Met.ofW (cc := cc) (maxL := maxL) (ret := none) hy rfl ?_
  intro p e s m args below meth c s₁ B hml hv
  obtain ⟨rfl, hP, hK, hD, hB, hM, hN, hZ⟩ := hv
  have hts := atoms_spec (ws := wsA y cc maxL none) B.pre
  have hown : s.vm.findClass y.cls = some m.cls := findClass_of_methodNamed B.named
  have hh := B.exec
  have hb := B.bytes
  have hr := B.returns
  have hlk := B.notSynchronized
  have hin : meth.name = "<init>" := ((name_of_methodNamed B.named B.method).1).trans hname
  rw [lg_entry_eq]
  have hX : Cx (p, l0, e, rm, s, m, as.toArray, below, meth, c, MQ below (CQn E post) as.toArray s mc ms (eA E), maxL) l0 E y.cls cc none maxL rm := ⟨hh, hb, hr, hml, hown, fun w hw => hts w (List.mem_cons_of_mem _ hw), hlk, hK, hB, rfl, rfl, rfl, hN, hZ⟩
  refine body _ hX hin ?_ s.heap [] _ ⟨hP, hD, va_S.rf⟩ hM (lvO_entry as hlen hL0)
  intro pc L E' M' hd hsm hpost
  intro H locs ls hW hM2 hl
  obtain ⟨hP2, hD2, hS2⟩ := hW
  rw [eA_same hsm] at hS2
  exact W.vret hh hb hr (fun t ht hW2 => ⟨⟨(E', M'), rfl, ⟨hsm, hpost⟩, by rw [ht]; exact hP2, by rw [tysE_same hsm, hsm.2.1]; exact va_K.moved hW2.alike hK, hD2, by rw [ht, hsm.1]; exact Nat.le_trans hB hS2.1, hM2, NW_warm hW2 hN, by rw [ht]; exact SW_same hsm (SW_go hZ hW2 hS2)⟩, hS2.F ht⟩) hS2.2.2 hd hlk
section RowsI
variable {X : Ctx} {l0 : Launch} {E : Env1} {cs : Nat × Nat} {own : String} {cc : ByteArray} {ret : Option FieldType} {nL pc : Nat} {rm : Room} {L L' : List (Option Value)} {st : List Value} {M : Mem}
variable {y : MethodName} {cc2 : ByteArray} {maxL2 : Nat} {rm2 : Room} {idx q mc ms : Nat} {host : String} {post : Env1 → Mem → Prop}
def roomI (rm2 rm : Room) (maxL2 mc ms : Nat) : Prop := rm2.cells = mc ∧ rm2.slots = ms ∧ rm2.frames + 1 ≤ rm.frames ∧ 8 + (maxL2 + 11) + rm2.locals ≤ rm.locals
theorem G_cI (h : Cx X l0 E own cc ret nL rm) (hM0 : Met l0 y (wsA y cc2 maxL2 none) rm2 (CP E M [.ref q]) (CQn E post) mc ms (eA E)) (hyi : y.name = "<init>") (hy : nameOk y 0) (hlink : Cond.methodLink own idx y ∈ lw_g) (hinst : Cond.instanceMethod y ∈ lw_g) (hini : Cond.initialized y.cls ∈ lw_g) (hcode : Cond.code y cc2 maxL2 none ∈ lw_g)
    (hd : decode cc pc = .ok (.invokespecial idx, 3)) {pc' : Nat} (hp : pc + 3 = pc') (hroom : roomI rm2 rm maxL2 mc ms) (hcat : (st.map fun v => v.category).sum ≤ 8) (hcs : cs.1 + mc ≤ rm.cells ∧ cs.2 + ms ≤ rm.slots) (kk : ∀ E' M', Same E E' → post E' M' → G X E' (cs.1 + mc, cs.2 + ms) pc' L st M') : G X E cs pc L (.ref q :: st) M := by
  subst hp
  obtain ⟨p, l, e, R, s, m, args, below, meth, c, Q, nl⟩ := X
  obtain ⟨hx, hb, hr, hml, hown, hts, hlk, hK, hB, rfl, rfl, rfl, hN, hZ⟩ := h
  intro H locs ls hW hM hl
  obtain ⟨hP, hD, hS⟩ := hW
  have hBH : eB E ≤ H.size := Nat.le_trans hB hS.1
  have hcw := callB_of (own := own) (index := idx) 0 hts (wsA_good hcode) rfl hroom.1 hroom.2.1 (hts _ hini) (hts _ hlink) hy hroom.2.2
  refine va_callv (va_runI (As := []) (rest := st) ⟨hx, hb, hml, hown, hts⟩ hM0 ⟨hcw, hyi, hts _ hinst⟩ ⟨CP_blind, fun U hU hW => ⟨rfl, PreU_at hK hP hD hBH hM hN hS hZ hU hW⟩⟩ rfl rfl hl.1 rfl (by simpa using hcat) hd hcs) hS (fun _ _ z => z) (fun _ z => z) (fun u t H1 locs1 ht hvm hpost hB1 hz1 hk1 hS1 => ?_)
  obtain ⟨hsm, hpo⟩ := hpost
  obtain ⟨hP2, hK2, hD2, hB2, hM2, -, -⟩ := hB1
  rw [ht] at hP2
  exact kk u.1 u.2 hsm hpo H1 locs1 ls ⟨hP2, hD2, by rw [eA_same hsm]; exact hS1⟩ hM2 hl
theorem G_cIN (h : Cx X l0 E own cc ret nL rm) (hM0 : Met l0 y (wsA y cc2 maxL2 none) rm2 (CP E M [.ref q]) (CQn E post) mc ms (eA E)) (hyi : y.name = "<init>") (hy : nameOk y 0) (hlink : (own, idx, y, host) ∈ nwM) (hinst : Cond.instanceMethod y ∈ lw_g) (hini : Cond.initialized y.cls ∈ lw_g) (hcode : Cond.code y cc2 maxL2 none ∈ lw_g)
    (hd : decode cc pc = .ok (.invokespecial idx, 3)) {pc' : Nat} (hp : pc + 3 = pc') (hroom : roomI rm2 rm maxL2 mc ms) (hcat : (st.map fun v => v.category).sum ≤ 8) (hcs : cs.1 + mc ≤ rm.cells ∧ cs.2 + ms ≤ rm.slots) (kk : ∀ E' M', Same E E' → post E' M' → G X E' (cs.1 + mc, cs.2 + ms) pc' L st M') : G X E cs pc L (.ref q :: st) M := by
  subst hp
  obtain ⟨p, l, e, R, s, m, args, below, meth, c, Q, nl⟩ := X
  obtain ⟨hx, hb, hr, hml, hown, hts, hlk, hK, hB, rfl, rfl, rfl, hN, hZ⟩ := h
  intro H locs ls hW hM hl
  obtain ⟨hP, hD, hS⟩ := hW
  have hBH : eB E ≤ H.size := Nat.le_trans hB hS.1
  have hcw := va_cnB (own := own) (index := idx) (host := host) 0 hts (wsA_good hcode) rfl hroom.1 hroom.2.1 (hN.1 _ hlink) (hts _ hini) hy hroom.2.2
  refine va_callv (va_runIN (As := []) (rest := st) ⟨hx, hb, hml, hown, hts⟩ hM0 ⟨hcw, hyi, hts _ hinst⟩ ⟨CP_blind, fun U hU hW => ⟨rfl, PreU_at hK hP hD hBH hM hN hS hZ hU hW⟩⟩ rfl rfl hl.1 rfl (by simpa using hcat) hd hcs) hS (fun _ _ z => z) (fun _ z => z) (fun u t H1 locs1 ht hvm hpost hB1 hz1 hk1 hS1 => ?_)
  obtain ⟨hsm, hpo⟩ := hpost
  obtain ⟨hP2, hK2, hD2, hB2, hM2, -, -⟩ := hB1
  rw [ht] at hP2
  exact kk u.1 u.2 hsm hpo H1 locs1 ls ⟨hP2, hD2, by rw [eA_same hsm]; exact hS1⟩ hM2 hl
theorem G_objInit (h : Cx X l0 E own cc ret nL rm) (hlink : Cond.methodLink own idx Lib.objectInit ∈ lw_g) (hinst : Cond.instanceMethod Lib.objectInit ∈ lw_g) (hcode : Cond.code Lib.objectInit ⟨#[0xb1]⟩ 1 none ∈ lw_g) (hd : decode cc pc = .ok (.invokespecial idx, 3)) {pc' : Nat} (hp : pc + 3 = pc') (hfr : 1 ≤ rm.frames) (hlo : (st.map fun v => v.category).sum + 12 ≤ rm.locals) (kk : G X E cs pc' L st M) : G X E cs pc L (.ref q :: st) M := by
  subst hp
  obtain ⟨p, l, e, R, s, m, args, below, meth, c, Q, nl⟩ := X
  obtain ⟨hx, hb, hr, hml, hown, hts, hlk, hK, hB, rfl, rfl, rfl, hN, hZ⟩ := h
  intro H locs ls hW hM hl
  obtain ⟨hP, hD, hS⟩ := hW
  exact W.objInit hx hb hown (hts _ hlink) (hts _ hinst) (hts _ hcode) rfl (by rw [hml]; exact hl.1) rfl hd hfr (by simpa using hlo) (kk H locs ls ⟨hP, hD, hS⟩ hM hl)
end RowsI
end Ctor
