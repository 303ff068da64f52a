/-! the start, and all calls -/
section Al90
variable {E : Env1} {x m : Nat} {M : Mem}
theorem nm_start2 (h : Start E x m M) : ∃ ad, Nm E x m ad ∧ ∀ n c, nmK n = some c → isK E (ad n) c := by
  obtain ⟨hW, hx, hm, -, -, hc, hi, -⟩ := h
  exact ⟨adE E x m ((eL E).sum + 1), ⟨adE_0 _ _ _ _, adE_50 _ _ _ _, adE_inj hW hx hm hc hi (lt_sum _), fun n c q k hp => (adE_p hp).symm⟩, fun n c hk => adE_K hW hx hm n c hk⟩
theorem pm_start {ad : Nat → Nat} (hN : Nm E x m ad) (hK : ∀ n c, nmK n = some c → isK E (ad n) c) (hp : ∀ q, q ∈ eL E → eK E q = 13 → ∀ j, j < 8 → mr M q j = rr E q j) {H : Nat} (hH : isH H) : PM ad M H (fun j => j) := by
  have hk : isK E (ad (H + 5)) 13 := by
    rcases hH with rfl | rfl | rfl | rfl
    · exact hK 105 13 rfl
    · exact hK 205 13 rfl
    · exact hK 305 13 rfl
    · exact hK 405 13 rfl
  refine ⟨fun j hj => ⟨?_, hj⟩, fun i j _ _ e => e⟩
  rw [hp _ hk.1 hk.2 j hj]
  exact (sp_of hN hH hj).2
theorem inv_start (E : Env1) (x m : Nat) (M : Mem) (h : Start E x m M) : Inv E x m M := by
  obtain ⟨ad, hN, hK⟩ := nm_start2 h
  obtain ⟨-, -, -, hs, hm, -, -, hp⟩ := h
  obtain ⟨rfl, rfl⟩ : m = ad 0 ∧ x = ad 50 := ⟨hN.1.symm, hN.2.1.symm⟩
  have hH := hn_of hN (H := 100) (Or.inl rfl)
  have hS := sn_of hN (H := 100) (Or.inl rfl)
  obtain ⟨⟨s1, s2, ⟨t1, t2, t3, t4, t5⟩, s3, s4, s5⟩, s6, s7, s8, s9, g1, g2, g3, g4⟩ := hs
  obtain ⟨m1, m2, m3, m4, m5, m6, m7, m8, m9, l1, l2, l3, l4, l5⟩ := hm
  rw [n_100 hN] at s1 s2 s3 s4 s5 t1 t2 t3 t4 t5
  rw [hH.2.2.1] at t1 t2 t3 t4 t5
  rw [hS.1] at t1
  rw [hS.2.1] at t2
  rw [hS.2.2] at t3
  rw [hH.2.2.2.2.1] at s3
  rw [hH.2.2.2.2.2.1] at s4
  rw [hH.2.2.2.2.2.2.1] at s5
  rw [n_53 hN] at s6 s7
  rw [n_54 hN] at s8
  rw [n_1 hN] at m1
  rw [n_11 hN] at l1
  rw [n_28 hN] at l4 l5
  have pm : ∀ {H : Nat}, isH H → PM ad M H (fun j => j) := fun hH => pm_start hN hK hp hH
  have nl : ∀ {P : Prop} {i : Nat}, i < 0 → P := fun h => absurd h (Nat.not_lt_zero _)
  refine ⟨ad, newH ho0, fun j => j, hN, okH_new ho0, ⟨⟨s1, fun i hi => nl hi, fun i hi => nl hi, t1, t2, t3, t4, t5⟩, s2, ⟨s3, fun _ _ hr => nl hr⟩, ⟨s4, fun _ _ hr => nl hr⟩, ⟨s5, fun _ _ hr => nl hr⟩, pm (Or.inl rfl), fun j hj => nl hj⟩, IB_of (okH_new ho0) ⟨⟨m2, fun i hi => nl hi, fun i hi => nl hi, m3, m4, fun i hi => nl hi, fun i hi => nl hi, l1⟩, m9, fun j hj => nl hj, m5, m6, m7, fun k hk => nl hk, fun k hk => nl hk, fun k hk => nl hk⟩, fun c hc => ?_, ⟨s9.trans l2.symm, g1.trans l3.symm⟩, ⟨0, Nat.zero_le _, s8, m8, fun i hi => nl hi⟩, fun i hi => ⟨?_, ⟨fun j => j, ?_⟩, Or.inl ?_⟩, ⟨fun j => j, pm (Or.inr (Or.inl rfl))⟩⟩
  · rw [m1 c hc]
    rcases (show c = 0 ∨ c = 1 ∨ c = 2 by omega) with rfl | rfl | rfl
    · exact g2
    · exact g3
    · exact g4
  · rcases (show i = 0 ∨ i = 1 by omega) with rfl | rfl
    · exact s6.trans l4.symm
    · exact s7.trans l5.symm
  · rcases (show i = 0 ∨ i = 1 by omega) with rfl | rfl
    · exact pm (Or.inr (Or.inr (Or.inl rfl)))
    · exact pm (Or.inr (Or.inr (Or.inr rfl)))
  · rcases (show i = 0 ∨ i = 1 by omega) with rfl | rfl
    · exact s6
    · exact s7
theorem al_all (E : Env1) (x m : Nat) : AlAll Inv E x m := fun M hI => ⟨ok_house hI, ok_one hI, ok_type hI, ok_clear hI, ok_read hI, ok_meets hI, ok_goes hI, ok_waits hI, ok_carpet hI, ok_step hI, ok_undo hI, ok_of hI, ok_about hI, ok_asks hI, ok_word hI, ok_high hI, ok_hears hI, ok_then hI, ok_plan hI, ok_seen hI, ok_may hI, ok_note hI, ok_mark hI, ok_forget hI, ok_is hI, ok_look hI, ok_kinds hI, ok_ask hI, ok_hosts hI, ok_slips hI, ok_evenings hI, ok_part hI, ok_image hI, ok_from hI, ok_status hI, ok_count hI, ok_digest hI⟩
end Al90
