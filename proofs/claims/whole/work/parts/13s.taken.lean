theorem rowX_of {n m : Nat} {x y : ST} (h : RW n m x y) (hn : n ≤ 60) : ∀ j, j < m → x.2.1 31 j = nI (rowX x j) ∧ rowX x j < n := by
  intro j hj
  obtain ⟨-, -, -, h4, -⟩ := h
  obtain ⟨-, b, b1, b2⟩ := h4 j hj
  have : rowX x j = b := by unfold rowX; rw [b2, nI_clamp (by omega)]
  rw [this]
  exact ⟨b2, b1⟩
theorem look_x {n r ns m t : Nat} {x y : ST} {K : ST → Prop} (hR : RR n r ns m t x y) (h : ∀ x', RR n r ns m t x' y → OutOK r m x' → K x') : wX6_lookThrough K x := by
  obtain ⟨hB, hO, hQ, hU, hS, hW, hT, hP, hZ⟩ := id hR
  unfold wX6_lookThrough
  rcases hZ with hZ | hZ
  · refine rbT hZ ?_
    rw [show gI x 0 = nI r from hU.2.1]
    have hr := rowX_of hW hB.1
    have hn := hB.1
    refine outs_x hW.1 hU.1 hW.2.1 (fun j hj => ⟨(hr j hj).1, by have := (hr j hj).2; omega⟩) (fun ou st ho x3 e3 => ?_)
    subst e3
    have hok : OutOK r m (pI (OXS x (nI (m - topF (ltK (x.2.2 (6 + r))) (rowX x) m m)) ou st) 2 1) := ⟨rfl, fun j hj => ho j hj⟩
    exact h _ ⟨hB, hO, hQ, hU, hS, hW, hT, hP, Or.inr ⟨rfl, hok⟩⟩ hok
  · exact rbF (by rw [show gI x 2 = 1 from hZ.1]; exact n10) (h x hR hZ.2)
theorem take_m {n r ns m t : Nat} {x y : ST} {K : Int32 → ST → Prop} (hR : RR n r ns m t x y) (h : ∀ y', RR n r ns m t x y' → (∀ j, j < m → y'.2.1 60 j = outX r m x j) → K (nI (m - topF (ltK (x.2.2 (6 + r))) (rowX x) m m)) y') : wX7_takeOut K y := by
  obtain ⟨hB, hO, hQ, hU, hS, hW, hT, hP, hZ⟩ := id hR
  have hr := rowX_of hW hB.1
  have hn := hB.1
  refine outs_m (k := fun ρ => x.2.2 (6 + ρ)) (row := rowX x) hW.1 hU.1 hW.2.2.1 hU.2.2 (fun j hj => ⟨(hW.2.2.2.1 j hj).1.symm.trans (hr j hj).1, by have := (hr j hj).2; omega⟩) (fun i j hi hj e => hW.2.2.2.2 i j hi hj (by rw [(hr i hi).1, (hr j hj).1, e])) (fun j hj => (hB.2.2.2 _ (hr j hj).2).2.2.2.2.2.2) (fun st ou ho => ?_)
  exact h _ hR (fun j hj => ho j hj)
theorem s_takenOut : SIM wX6_takenOut wX7_takenOut := by
  intro x y Q hR h
  obtain ⟨n, r, ns, m, t, hRR⟩ := id hR
  unfold wX6_takenOut
  refine look_x hRR (fun x' hR' hok => ?_)
  unfold wX7_takenOut
  refine take_m hR' (fun y' hR2 _ => ?_)
  rw [show gI x' 21 = nI (m - topF (ltK (x'.2.2 (6 + r))) (rowX x') m m) from hok.1]
  exact h _ _ _ (R_of hR2)
theorem s_isOut (a : Int32) : SIM (wX6_isOut a) (wX7_isOut a) := by
  intro x y Q hR h
  obtain ⟨n, r, ns, m, t, hRR⟩ := id hR
  have hm := hRR.2.2.2.2.2.1.1
  unfold wX6_isOut wX3_has
  refine x_in hm hRR.2.2.2.2.2.1.2.1 (fun i hi e => rbF n10 (look_x hRR (fun x' hR' hok => ?_))) (fun z => rbT rfl ?_)
  · have key : ∀ v : Int32, (x'.2.1 32 i = 0 → v = 0) → (¬ x'.2.1 32 i = 0 → v = 1) → wX7_isOut a (fun v' y' => Q v v' x' y') y := by
      intro v v1 v2
      unfold wX7_isOut
      refine m_in hm hR'.2.2.2.2.2.1.2.2.1 (fun i2 hi2 e2 => rbF n10 (take_m hR' (fun y' hR2 ho => ?_))) (fun z => absurd ⟨i, hi, e⟩ z)
      have e3 : i = i2 := nI_inj60 (by omega) (by omega) e e2
      rw [e]
      have e4 : gA y' 60 (nI i) = x'.2.1 32 i := by rw [gA_n _ _ (by omega), ho i hi, hok.2 i hi]
      refine ⟨vin (by omega) (by omega), ?_⟩
      rw [e4]
      refine ⟨fun c => ?_, fun c => ?_⟩
      · rw [v1 c]; exact h _ _ _ (R_of hR2)
      · rw [v2 c]; exact h _ _ _ (R_of hR2)
    have e5 : gA x' 32 a = x'.2.1 32 i := by rw [e, gA_n _ _ (by omega)]
    refine ⟨by rw [e]; exact vin (by omega) (by omega), ?_⟩
    rw [e5]
    exact ⟨fun c => key 0 (fun _ => rfl) (fun z => absurd c z), fun c => key 1 (fun z => absurd z c) (fun _ => rfl)⟩
  · unfold wX7_isOut
    exact m_in hm hRR.2.2.2.2.2.1.2.2.1 (fun i hi e => absurd ⟨i, hi, e⟩ z) (fun _ => rbT rfl (h _ _ _ hR))
