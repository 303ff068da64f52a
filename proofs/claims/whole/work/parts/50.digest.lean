/-! the digest -/
section Al50
variable {E : Env1} {x m : Nat} {ad : Nat → Nat} {M : Mem} {h : Ho} {pi : Nat → Nat}
def mixF (l : Int64) (f : Nat → Int64) : Nat → Int64
  | 0 => l
  | n + 1 => 31 * mixF l f n + f n
def pplF (h : Ho) (l : Int64) : Nat → Int64
  | 0 => l
  | n + 1 => 31 * (31 * (31 * (31 * pplF h l n + (nI (oK h n)).toInt64) + (nI (oW h n)).toInt64) + (nI (sP (oS h) n) - 1).toInt64) + (nI (sN (oS h) n)).toInt64
theorem dig4 {R n w : Nat} {f : Nat → Int32} (hW : WN E ad R) (hn : n ≤ 6) (hw : w ≤ 4) (c : CR ad M R n w f) (l : Int64) : f_X4_digestOn E M (ad R) l (nI w) = some (mixF l (fun k => (f k).toInt64) (w * n)) := by
  unfold f_X4_digestOn
  obtain ⟨q, e⟩ := loop_FU (fun q (s : Int64) v => f_X4_digestOn_L6 E M q (ad R) (nI w) s v) (fun r => mixF l (fun k => (f k).toInt64) (w * r)) n (by omega) (by
    intro q r hr
    show b_X4_digestOn_L6 E M (f_X4_digestOn_L6 E M q) (ad R) (nI w) _ (nI r) = _
    unfold b_X4_digestOn_L6
    rw [c.1, if_neg (le_n hr (by omega))]
    obtain ⟨q', e'⟩ := loop_FU (fun q' (s : Int64) v => f_X4_digestOn_L18 E M (f_X4_digestOn_L6 E M q) q' (ad R) (nI w) s (nI r) v) (fun j => mixF l (fun k => (f k).toInt64) (w * r + j)) w (by omega) (by
      intro q' j hj
      show b_X4_digestOn_L18 E M (f_X4_digestOn_L6 E M q) (f_X4_digestOn_L18 E M (f_X4_digestOn_L6 E M q) q') (ad R) (nI w) _ (nI r) (nI j) = _
      unfold b_X4_digestOn_L18
      rw [if_neg (le_n hj (by omega)), cell_eq hW (by omega) (by omega), Option.bind_some, nm_v, c.2 r j hr hj, nI_1]
      rfl)
    refine e'.trans ?_
    show b_X4_digestOn_L18 E M (f_X4_digestOn_L6 E M q) (f_X4_digestOn_L18 E M (f_X4_digestOn_L6 E M q) q') (ad R) (nI w) _ (nI r) (nI w) = _
    unfold b_X4_digestOn_L18
    rw [if_pos (nI_le (Nat.le_refl _) (by omega)), nI_1]
    rfl)
  refine e.trans ?_
  show b_X4_digestOn_L6 E M (f_X4_digestOn_L6 E M q) (ad R) (nI w) _ (nI n) = _
  unfold b_X4_digestOn_L6
  rw [c.1, if_pos (nI_le (Nat.le_refl _) (by omega))]
def rowD (h : Ho) (l : Int64) : Int64 := mixF (mixF (mixF l (fun k => (oX h k).toInt64) (3 * oA h)) (fun k => (oY h k).toInt64) (4 * oB h)) (fun k => (oZ h k).toInt64) (4 * oC h)
def houD (h : Ho) (l : Int64) : Int64 := rowD h (pplF h (31 * mixF l (fun k => (nI (sS (oS h) k)).toInt64) 8 + (nI (sC (oS h))).toInt64) (oP h))
theorem dig0 (hN : Nm E (ad 50) (ad 0) ad) (ho : okH h) (hc : CH ad M 100 h pi) (l : Int64) : f_X0_digestOn E M (ad 100) l = some (houD h l) := by
  have hH := hn_of hN (H := 100) (Or.inl rfl)
  have hS := sn_of hN (H := 100) (Or.inl rfl)
  have wn := wn_of hN (H := 100) (Or.inl rfl)
  have hp : oP h ≤ 6 := ho.1.1
  unfold f_X0_digestOn
  obtain ⟨n, e⟩ := loop_FU (fun q (s : Int64) v => f_X0_digestOn_L5 E M q (ad 100) s v) (fun j => mixF l (fun k => (nI (sS (oS h) k)).toInt64) j) 8 (by decide) (by
    intro n j hj
    show b_X0_digestOn_L5 E M (f_X0_digestOn_L5 E M n) (ad 100) _ (nI j) = _
    unfold b_X0_digestOn_L5
    rw [if_neg (lt8 hj), gd_nI hj (by decide), nm_v, hH.2.2.1, hS.1, ix_nI (by omega), hc.1.2.2.2.1 j hj, nI_1]
    rfl)
  refine e.trans ?_
  show b_X0_digestOn_L5 E M (f_X0_digestOn_L5 E M n) (ad 100) _ (nI 8) = _
  unfold b_X0_digestOn_L5
  rw [if_pos (by decide), nm_v, hH.2.2.1, hc.1.2.2.2.2.2.2.1]
  obtain ⟨n', e'⟩ := loop_FU (fun q (s : Int64) v => f_X0_digestOn_L54 E M q (ad 100) s v) (fun j => pplF h (31 * mixF l (fun k => (nI (sS (oS h) k)).toInt64) 8 + (nI (sC (oS h))).toInt64) j) (oP h) (by omega) (by
    intro n j hj
    show b_X0_digestOn_L54 E M (f_X0_digestOn_L54 E M n) (ad 100) _ (nI j) = _
    unfold b_X0_digestOn_L54
    rw [hc.1.1, if_neg (le_n hj (by omega)), if_neg (lt6 (by omega)), gd_nI (by omega) (by decide), nm_v, nm_v, nm_v, nm_v, hH.2.2.1, hH.1, hH.2.1, hS.2.1, hS.2.2, ix_nI (by omega), hc.1.2.1 j hj, hc.1.2.2.1 j hj, hc.1.2.2.2.2.1 j (by omega), hc.1.2.2.2.2.2.1 j (by omega), nI_1]
    rfl)
  refine e'.trans ?_
  show b_X0_digestOn_L54 E M (f_X0_digestOn_L54 E M n') (ad 100) _ (nI (oP h)) = _
  unfold b_X0_digestOn_L54 f_X0_digestOn_L142
  rw [hc.1.1, if_pos (nI_le (Nat.le_refl _) (by omega)), hH.2.2.2.2.1, hH.2.2.2.2.2.1, hH.2.2.2.2.2.2.1, show (3 : Int32) = nI 3 from rfl, show (4 : Int32) = nI 4 from rfl, dig4 wn.1 ho.2.2.2.2.1 (by omega) hc.2.2.1, Option.bind_some, dig4 wn.2.1 ho.2.2.2.2.2.1 (by omega) hc.2.2.2.1, Option.bind_some, dig4 wn.2.2 ho.2.2.2.2.2.2.1 (by omega) hc.2.2.2.2.1, Option.bind_some]
  rfl
theorem mix_w (v a : Int64) : f_X9_mix E (wl M (ad 0) 29 v) (ad 0) a = wl M (ad 0) 29 (31 * v + a) := by
  unfold f_X9_mix
  have e0 : ml (wl M (ad 0) 29 v) (ad 0) 29 = v := by rw [ml_wl, if_pos ⟨rfl, rfl⟩]
  rw [e0]
  refine mem_ext (fun _ _ => rfl) (fun q j => ?_) (fun _ _ => rfl)
  rw [ml_wl, ml_wl, ml_wl]
  by_cases g : q = ad 0 ∧ j = 29
  · rw [if_pos g, if_pos g]
  · rw [if_neg g, if_neg g, if_neg g]
theorem d185 (hN : Nm E (ad 50) (ad 0) ad) (ho : okH h) (lv : LV ad M h) (l : Int64) : f_X9_digest_L185 E FU (wl M (ad 0) 29 l) (ad 0) 0 = some ((31 * (31 * (mixF l (fun k => (oZ h k).toInt64) (4 * oC h)) + ml M (ad 0) 25) + ml M (ad 0) 26), wl M (ad 0) 29 (31 * (31 * (mixF l (fun k => (oZ h k).toInt64) (4 * oC h)) + ml M (ad 0) 25) + ml M (ad 0) 26)) := by
  have h6 : oC h ≤ 6 := ho.2.2.2.2.2.2.1
  have hm : mi M (ad 0) 6 = nI (oC h) := lv.2.2.2.2.2.1
  have hf : ∀ k, k < 4 * oC h → mi M (ad 14) k = oZ h k := lv.2.2.2.2.2.2.2.2
  obtain ⟨n, e⟩ := loop_FU (fun q (s : Int64) v => f_X9_digest_L185 E q (wl M (ad 0) 29 s) (ad 0) v) (fun j => mixF l (fun k => (oZ h k).toInt64) j) (4 * oC h) (by omega) (by
    intro n j hj
    show b_X9_digest_L185 E (f_X9_digest_L185 E n) (wl M (ad 0) 29 _) (ad 0) (nI j) = _
    unfold b_X9_digest_L185
    rw [mi_wl, hm, n4, if_neg (nI_ge (a := j) (b := 4 * oC h) hj (by omega)), gd_nI (by omega) (by decide), nm_v, n_14 hN, ix_nI (by omega), mi_wl, hf j hj, mix_w, nI_1]
    rfl)
  refine e.trans ?_
  show b_X9_digest_L185 E (f_X9_digest_L185 E n) (wl M (ad 0) 29 _) (ad 0) (nI (4 * oC h)) = _
  unfold b_X9_digest_L185
  rw [mi_wl, hm, n4, if_pos (nI_le (Nat.le_refl _) (by omega)), nm_v, ml_wl, if_neg (show ¬ (ad 0 = ad 0 ∧ 25 = 29) from fun z => absurd z.2 (by decide)), mix_w, nm_v, ml_wl, if_neg (show ¬ (ad 0 = ad 0 ∧ 26 = 29) from fun z => absurd z.2 (by decide)), mix_w, ml_wl, if_pos ⟨rfl, rfl⟩]

theorem d156 (hN : Nm E (ad 50) (ad 0) ad) (ho : okH h) (lv : LV ad M h) (l : Int64) : f_X9_digest_L156 E FU (wl M (ad 0) 29 l) (ad 0) 0 = some ((31 * (31 * (mixF (mixF l (fun k => (oY h k).toInt64) (4 * oB h)) (fun k => (oZ h k).toInt64) (4 * oC h)) + ml M (ad 0) 25) + ml M (ad 0) 26), wl M (ad 0) 29 (31 * (31 * (mixF (mixF l (fun k => (oY h k).toInt64) (4 * oB h)) (fun k => (oZ h k).toInt64) (4 * oC h)) + ml M (ad 0) 25) + ml M (ad 0) 26)) := by
  have h6 : oB h ≤ 6 := ho.2.2.2.2.2.1
  have hm : mi M (ad 0) 5 = nI (oB h) := lv.2.2.2.2.1
  have hf : ∀ k, k < 4 * oB h → mi M (ad 13) k = oY h k := lv.2.2.2.2.2.2.2.1
  obtain ⟨n, e⟩ := loop_FU (fun q (s : Int64) v => f_X9_digest_L156 E q (wl M (ad 0) 29 s) (ad 0) v) (fun j => mixF l (fun k => (oY h k).toInt64) j) (4 * oB h) (by omega) (by
    intro n j hj
    show b_X9_digest_L156 E (f_X9_digest_L156 E n) (wl M (ad 0) 29 _) (ad 0) (nI j) = _
    unfold b_X9_digest_L156
    rw [mi_wl, hm, n4, if_neg (nI_ge (a := j) (b := 4 * oB h) hj (by omega)), gd_nI (by omega) (by decide), nm_v, n_13 hN, ix_nI (by omega), mi_wl, hf j hj, mix_w, nI_1]
    rfl)
  refine e.trans ?_
  show b_X9_digest_L156 E (f_X9_digest_L156 E n) (wl M (ad 0) 29 _) (ad 0) (nI (4 * oB h)) = _
  unfold b_X9_digest_L156
  rw [mi_wl, hm, n4, if_pos (nI_le (Nat.le_refl _) (by omega)), d185 hN ho lv]

theorem d127 (hN : Nm E (ad 50) (ad 0) ad) (ho : okH h) (lv : LV ad M h) (l : Int64) : f_X9_digest_L127 E FU (wl M (ad 0) 29 l) (ad 0) 0 = some ((31 * (31 * (rowD h l) + ml M (ad 0) 25) + ml M (ad 0) 26), wl M (ad 0) 29 (31 * (31 * (rowD h l) + ml M (ad 0) 25) + ml M (ad 0) 26)) := by
  have h6 : oA h ≤ 6 := ho.2.2.2.2.1
  have hm : mi M (ad 0) 4 = nI (oA h) := lv.2.2.2.1
  have hf : ∀ k, k < 3 * oA h → mi M (ad 12) k = oX h k := lv.2.2.2.2.2.2.1
  obtain ⟨n, e⟩ := loop_FU (fun q (s : Int64) v => f_X9_digest_L127 E q (wl M (ad 0) 29 s) (ad 0) v) (fun j => mixF l (fun k => (oX h k).toInt64) j) (3 * oA h) (by omega) (by
    intro n j hj
    show b_X9_digest_L127 E (f_X9_digest_L127 E n) (wl M (ad 0) 29 _) (ad 0) (nI j) = _
    unfold b_X9_digest_L127
    rw [mi_wl, hm, n3, if_neg (nI_ge (a := j) (b := 3 * oA h) hj (by omega)), gd_nI (by omega) (by decide), nm_v, n_12 hN, ix_nI (by omega), mi_wl, hf j hj, mix_w, nI_1]
    rfl)
  refine e.trans ?_
  show b_X9_digest_L127 E (f_X9_digest_L127 E n) (wl M (ad 0) 29 _) (ad 0) (nI (3 * oA h)) = _
  unfold b_X9_digest_L127
  rw [mi_wl, hm, n3, if_pos (nI_le (Nat.le_refl _) (by omega)), d156 hN ho lv]
  rfl
theorem d67 (hN : Nm E (ad 50) (ad 0) ad) (ho : okH h) (lv : LV ad M h) (l : Int64) : f_X9_digest_L67 E FU (wl M (ad 0) 29 l) (ad 0) 0 = some ((31 * (31 * (rowD h (pplF h l (oP h))) + ml M (ad 0) 25) + ml M (ad 0) 26), wl M (ad 0) 29 (31 * (31 * (rowD h (pplF h l (oP h))) + ml M (ad 0) 25) + ml M (ad 0) 26)) := by
  have hp : oP h ≤ 6 := ho.1.1
  have r := lv.1
  obtain ⟨n, e⟩ := loop_FU (fun q (s : Int64) v => f_X9_digest_L67 E q (wl M (ad 0) 29 s) (ad 0) v) (fun j => pplF h l j) (oP h) (by omega) (by
    intro n j hj
    show b_X9_digest_L67 E (f_X9_digest_L67 E n) (wl M (ad 0) 29 _) (ad 0) (nI j) = _
    unfold b_X9_digest_L67
    rw [mi_wl, r.1, if_neg (le_n hj (by omega)), gd_nI (by omega) (by decide), nm_v, n_7 hN, n_8 hN, n_9 hN, n_10 hN, ix_nI (by omega), mi_wl, r.2.1 j hj, mix_w, nm_v, mi_wl, r.2.2.1 j hj, mix_w, nm_v, mi_wl, r.2.2.2.2.2.2.1 j hj, mix_w, nm_v, mi_wl, r.2.2.2.2.2.1 j hj, mix_w, nI_1]
    rfl)
  refine e.trans ?_
  show b_X9_digest_L67 E (f_X9_digest_L67 E n) (wl M (ad 0) 29 _) (ad 0) (nI (oP h)) = _
  unfold b_X9_digest_L67
  rw [mi_wl, r.1, if_pos (nI_le (Nat.le_refl _) (by omega)), d127 hN ho lv]
theorem d33 (hN : Nm E (ad 50) (ad 0) ad) (ho : okH h) (lv : LV ad M h) (l : Int64) : f_X9_digest_L33 E FU (wl M (ad 0) 29 l) (ad 0) 0 = some ((31 * (31 * (houD h l) + ml M (ad 0) 25) + ml M (ad 0) 26), wl M (ad 0) 29 (31 * (31 * (houD h l) + ml M (ad 0) 25) + ml M (ad 0) 26)) := by
  have r := lv.1
  obtain ⟨n, e⟩ := loop_FU (fun q (s : Int64) v => f_X9_digest_L33 E q (wl M (ad 0) 29 s) (ad 0) v) (fun j => mixF l (fun k => (nI (sS (oS h) k)).toInt64) j) 8 (by decide) (by
    intro n j hj
    show b_X9_digest_L33 E (f_X9_digest_L33 E n) (wl M (ad 0) 29 _) (ad 0) (nI j) = _
    unfold b_X9_digest_L33
    rw [if_neg (lt8 hj), gd_nI hj (by decide), nm_v, n_11 hN, ix_nI (by omega), mi_wl, r.2.2.2.2.2.2.2 j hj, mix_w, nI_1]
    rfl)
  refine e.trans ?_
  show b_X9_digest_L33 E (f_X9_digest_L33 E n) (wl M (ad 0) 29 _) (ad 0) (nI 8) = _
  unfold b_X9_digest_L33
  rw [if_pos (by decide), nm_v, mi_wl, r.2.2.2.2.1, mix_w, d67 hN ho lv]
  rfl
end Al50
section Al50b
variable {E : Env1} {x m : Nat} {M : Mem}
theorem ok_digest (hI : Inv E x m M) : al_digest Inv E x m M := by
  obtain ⟨ad, h, pi, hN, ho, hc, hb, k1, k2, k3, k4, k5⟩ := id hI
  obtain ⟨rfl, rfl⟩ : m = ad 0 ∧ x = ad 50 := ⟨hN.1.symm, hN.2.1.symm⟩
  have r := RO_of ho.1.1 hb
  have hH := hn_of hN (H := 100) (Or.inl rfl)
  have hS := sn_of hN (H := 100) (Or.inl rfl)
  have hT : sT (oS h) < 2 ^ 31 := by have := ho.2.1; omega
  have hp : oP h ≤ 6 := ho.1.1
  have hI' := hN.2.2.1
  have hP : ∀ j, j < 8 → SN E ad (100 + 16 + 4 * j) := fun j hj => (sp_of hN (H := 100) (Or.inl rfl) hj).1
  have lv := LV_of ho hb
  obtain ⟨t, t1, t2, t3, -⟩ := id k3
  have d : ¬ ad 50 = ad 0 := fun z => by have := hI' _ _ z; omega
  refine ⟨31 * (31 * houD h (mixF 1571 (fun k => (nI (countN h t k)).toInt64) 10) + ml M (ad 0) 25) + ml M (ad 0) 26, M, wl M (ad 0) 29 (31 * (31 * houD h (mixF 1571 (fun k => (nI (countN h t k)).toInt64) 10) + ml M (ad 0) 25) + ml M (ad 0) 26), ⟨?_, rfl⟩, ?_, ad, h, pi, hN, ho, CH_sm ho.2.2.1 (fun n hn k => ⟨rfl, rfl⟩) hc, hb, k1, ⟨?_, ?_⟩, Txt_kp ⟨fun _ _ _ => rfl, rfl, fun _ _ _ => rfl⟩ k3, Img_kp ⟨fun _ _ _ => rfl, rfl, fun _ _ _ => rfl⟩ k4, Drf_kp ⟨fun _ _ _ => rfl, rfl, fun _ _ _ => rfl⟩ k5⟩
  · unfold f_X8_digest
    obtain ⟨n, e⟩ := loop_FU (fun q (s : Int64) v => f_X8_digest_L6 E M q (ad 50) s v) (fun j => mixF 1571 (fun k => (nI (countN h t k)).toInt64) j) 10 (by decide) (by
      intro n j hj
      show b_X8_digest_L6 E M (f_X8_digest_L6 E M n) (ad 50) _ (nI j) = _
      unfold b_X8_digest_L6
      rw [if_neg (show ¬ (9 : Int32) < nI j from nI_nlt (a := 9) (b := j) (by omega) (by decide)), counted_eq hN ho hc t2 (by omega), Option.bind_some, nm_v, nI_1]
      rfl)
    refine e.trans ?_
    show b_X8_digest_L6 E M (f_X8_digest_L6 E M n) (ad 50) _ (nI 10) = _
    unfold b_X8_digest_L6
    rw [if_pos (by decide), n_100 hN, dig0 hN ho hc, Option.bind_some, nm_v, k2.1, k2.2]
  · unfold f_X9_digest
    obtain ⟨n, e⟩ := loop_FU (fun q (s : Int64) v => f_X9_digest_L9 E q (wl M (ad 0) 29 s) (ad 0) v) (fun j => mixF 1571 (fun k => (nI (countN h t k)).toInt64) j) 10 (by decide) (by
      intro n j hj
      show b_X9_digest_L9 E (f_X9_digest_L9 E n) (wl M (ad 0) 29 _) (ad 0) (nI j) = _
      unfold b_X9_digest_L9
      rw [if_neg (show ¬ (9 : Int32) < nI j from nI_nlt (a := 9) (b := j) (by omega) (by decide)), countOf_eq (M := wl M (ad 0) 29 _) hN ho hb t3 (by omega), Option.bind_some, nm_v, mix_w, nI_1]
      rfl)
    refine e.trans ?_
    show b_X9_digest_L9 E (f_X9_digest_L9 E n) (wl M (ad 0) 29 _) (ad 0) (nI 10) = _
    unfold b_X9_digest_L9
    rw [if_pos (by decide), d33 hN ho lv]
  · rw [ml_wl, ml_wl, if_neg (fun z => d z.1), if_neg (fun z => absurd z.2 (by decide))]
    exact k2.1
  · rw [ml_wl, ml_wl, if_neg (fun z => d z.1), if_neg (fun z => absurd z.2 (by decide))]
    exact k2.2
end Al50b
