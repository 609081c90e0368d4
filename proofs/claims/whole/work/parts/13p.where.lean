theorem bgX_le {n r : Nat} {x : ST} (hw : ∀ c, c < (packX n r x).1 → waX n r x c ≤ 100) (hn : n ≤ 60) (c : Nat) (hc : c < (packX n r x).1) : bgX n r x c ≤ 6000 := by
  have h1 := sm_le2 (waX n r x) hw
  have h2 := h1 c (by omega)
  have h3 := h1 (packX n r x).1 (Nat.le_refl _)
  have h4 := packX_le (n := n) (r := r) (x := x)
  show begF (waX n r x) (sm (waX n r x) (packX n r x).1) (ofX n r x) c ≤ 6000
  unfold begF
  split <;> omega
def whV (B w T c : Nat) (b : Int32) : Int32 := if b = 0 then (if T < B then 0 else if T < B + w then 1 else 2) else if b = 1 then (if B + w ≤ T then nI T else if B < T + w then nI (B + w) else nI (T + w)) else if b = 2 then nI c else -1
theorem s_where (a b d : Int32) : SIM (wX6_where a b d) (wX7_where a b d) := by
  intro x y Q hR h
  obtain ⟨n, r, ns, m, t, hRR⟩ := id hR
  have hn := hRR.1.1
  have hM : ∀ (x' y : ST) (K : Int32 → ST → Prop), RR n r ns m t x' y → (∀ y' i c T, RR n r ns m t x' y' → i < n → a = nI i → b = nI T → T ≤ 100000 → c < (packX n r x').1 → (packX n r x').2.2.2.2.2 i = nI c → (packX n r x').2.2.2.2.1 c = x'.2.1 11 i → K (whV (bgX n r x' c) (waX n r x' c) T c d) y') → (¬ ((∃ i, i < n ∧ a = nI i) ∧ inn b 0 100000) → K (-1) y) → wX7_where a b d K y := by
    intro x' y K hR' k1 k2
    unfold wX7_where wX7_isBook
    refine m_in hn hR'.1.2.2.1 (fun i hi e => brF n10 ?_) (fun z => brT rfl (k2 (fun q => z q.1)))
    rw [isIn_iff]
    rcases wi_in (a := b) (lo := 0) (hi := 100000) with ⟨e1, z1⟩ | ⟨e1, z1⟩ <;> rw [e1]
    · refine rbF n10 (pack_m hR' (fun y' hR2 hMP => ?_))
      obtain ⟨T, hT, eT⟩ := wi_c (n := 100000) (by omega) z1.1 z1.2
      obtain ⟨k, hk, ek⟩ := ordX_onto (r := r) (x := x') hi
      obtain ⟨c, c1, c2, c3⟩ := packF_crate (ordX n r x') (x'.2.1 12) (x'.2.1 11) (x'.1 16) n k hk
      rw [ek] at c2 c3
      have c1 : c < (packX n r x').1 := c1
      have c2 : (packX n r x').2.2.2.2.2 i = nI c := c2
      have c3 : (packX n r x').2.2.2.2.1 c = x'.2.1 11 i := c3
      have h3 := k1 y' i c T hR2 hi e eT hT c1 c2 c3
      obtain ⟨w1, w2, g, w3, w4, w5⟩ := packX_way hR' c c1
      have hB := bgX_le (n := n) (r := r) (x := x') (fun c hc => (packX_way hR' c hc).1) hn c c1
      have w1 : waX n r x' c ≤ 100 := w1
      have w2 : 1 ≤ waX n r x' c := w2
      have w5 : x'.2.1 23 g = nI (waX n r x' c) := w5
      obtain ⟨q4, q5⟩ := hMP.2.2.2.2.2 c c1
      have q4 : y'.2.1 55 c = nI (bgX n r x' c) := q4
      have q5 : y'.2.1 56 c = nI (bgX n r x' c + waX n r x' c) := q5
      have hp := packX_le (n := n) (r := r) (x := x')
      have f1 : gA y' 40 (nI i) = nI g := by rw [gA_n _ _ (by omega), ← (hR2.1.2.2.2 i hi).1, ← c3, w4]
      have f2 : gA y' 45 (nI g) = nI (waX n r x' c) := by rw [gA_n _ _ (by omega), ← (hR2.2.2.2.2.1.2.2.2.2.2.2.2 g w3).1, w5]
      generalize bgX n r x' c = B at h3 hB q4 q5
      generalize waX n r x' c = w at h3 w1 w2 q5 f2
      rw [e]
      refine ⟨vin (by omega) (by omega), fun v ev => ?_⟩
      have ev2 : v = nI c := by rw [ev, gA_n _ _ (by omega), hMP.2.2.1 i hi, c2]
      clear ev
      subst ev2
      rw [gA_n _ 56 (by omega), gA_n _ 55 (by omega), q4, q5, eT, f1, f2, nI_add, nI_ltI (by omega) (by omega), nI_ltI (by omega) (by omega)]
      refine ⟨vin (by omega) (by omega), ⟨fun z2 => ⟨fun z3 => ⟨fun d0 => ⟨fun d2 => ⟨fun d1 => ⟨vin (by omega) (by omega), fun v6 e6 => ?_⟩, fun d1 => ?_⟩, fun d2 => ?_⟩, fun d0 => ?_⟩, fun z3 => ⟨fun d0 => ⟨fun d2 => ⟨fun d1 => ⟨vin (by omega) (by omega), fun v6 e6 => ?_⟩, fun d1 => ?_⟩, fun d2 => ?_⟩, fun d0 => ?_⟩⟩, fun z2 => ⟨fun d0 => ⟨fun d2 => ⟨fun d1 => ⟨vin (by omega) (by omega), fun v6 e6 => ?_⟩, fun d1 => ?_⟩, fun d2 => ?_⟩, fun d0 => ?_⟩⟩⟩
      · rw [e6, nI_ltI (by omega) (by omega)]
        rw [d1] at h3
        have h3 : K (if B + w ≤ T then nI T else if B < T + w then nI (B + w) else nI (T + w)) y' := h3
        rw [if_neg (by omega)] at h3
        exact ⟨fun z => by rw [if_pos z] at h3; exact h3, fun z => by rw [if_neg z] at h3; exact h3⟩
      · unfold whV at h3; rw [if_neg d0, if_neg d1, if_neg d2] at h3; exact h3
      · rw [d2] at h3; exact h3
      · rw [d0] at h3
        have h3 : K (if T < B then 0 else if T < B + w then 1 else 2) y' := h3
        rw [if_pos z3] at h3; exact h3
      · rw [d1] at h3
        have h3 : K (if B + w ≤ T then nI T else if B < T + w then nI (B + w) else nI (T + w)) y' := h3
        rw [if_neg (by omega), if_pos (by omega)] at h3
        exact h3
      · unfold whV at h3; rw [if_neg d0, if_neg d1, if_neg d2] at h3; exact h3
      · rw [d2] at h3; exact h3
      · rw [d0] at h3
        have h3 : K (if T < B then 0 else if T < B + w then 1 else 2) y' := h3
        rw [if_neg z3, if_pos z2] at h3; exact h3
      · rw [d1] at h3
        have h3 : K (if B + w ≤ T then nI T else if B < T + w then nI (B + w) else nI (T + w)) y' := h3
        rw [if_pos (by omega)] at h3
        exact h3
      · unfold whV at h3; rw [if_neg d0, if_neg d1, if_neg d2] at h3; exact h3
      · rw [d2] at h3; exact h3
      · rw [d0] at h3
        have h3 : K (if T < B then 0 else if T < B + w then 1 else 2) y' := h3
        rw [if_neg (by omega), if_neg (by omega)] at h3; exact h3
    · exact rbT rfl (k2 (fun q => z1 q.2))
  have bad : ¬ ((∃ i, i < n ∧ a = nI i) ∧ inn b 0 100000) → wX7_where a b d (fun v' y' => Q (-1) v' x y') y := fun z =>
    hM x y _ hRR (fun y' i c T hR2 hi e eT hT _ _ _ => absurd ⟨⟨i, hi, e⟩, ⟨by rw [eT, show (0 : Int32) = nI 0 from rfl]; exact nI_nlt (Nat.zero_le _) (by omega), by rw [eT, show (100000 : Int32) = nI 100000 from rfl]; exact nI_nlt hT (by omega)⟩⟩ z) (fun _ => h _ _ _ hR)
  unfold wX6_where wX0_has
  refine x_in hn hRR.1.2.1 (fun i hi e => brF n10 ?_) (fun z => brT rfl (bad (fun q => z q.1)))
  rw [within_iff]
  rcases wi_in (a := b) (lo := 0) (hi := 100000) with ⟨e1, z1⟩ | ⟨e1, z1⟩ <;> rw [e1]
  · refine rbF n10 (plans_x hRR (fun x' hR' hP => ?_))
    obtain ⟨T, hT, eT⟩ := wi_c (n := 100000) (by omega) z1.1 z1.2
    obtain ⟨k, hk, ek⟩ := ordX_onto (r := r) (x := x') hi
    obtain ⟨c, c1, c2, c3⟩ := packF_crate (ordX n r x') (x'.2.1 12) (x'.2.1 11) (x'.1 16) n k hk
    rw [ek] at c2 c3
    have c1 : c < (packX n r x').1 := c1
    have c2 : (packX n r x').2.2.2.2.2 i = nI c := c2
    have c3 : (packX n r x').2.2.2.2.1 c = x'.2.1 11 i := c3
    have h3 : wX7_where a b d (fun v' y' => Q (whV (bgX n r x' c) (waX n r x' c) T c d) v' x' y') y := by
      refine hM x' y _ hR' (fun y' i2 cc T2 hR2 hi2 ei2 eT2 hT2 cc1 cc2 _ => ?_) (fun z => absurd ⟨⟨i, hi, e⟩, z1⟩ z)
      have hp := packX_le (n := n) (r := r) (x := x')
      have g1 : i = i2 := nI_inj60 (by omega) (by omega) e ei2
      have g2 : T = T2 := (nI_eq (by omega) (by omega)).mp (eT.symm.trans eT2)
      subst g2
      rw [← g1, c2] at cc2
      have g3 : c = cc := (nI_eq (by omega) (by omega)).mp cc2
      rw [g3]
      exact h _ _ _ (R_of hR2)
    obtain ⟨w1, w2, g, w3, w4, w5⟩ := packX_way hR' c c1
    have hB := bgX_le (n := n) (r := r) (x := x') (fun c hc => (packX_way hR' c hc).1) hn c c1
    have w1 : waX n r x' c ≤ 100 := w1
    have w2 : 1 ≤ waX n r x' c := w2
    have w5 : x'.2.1 23 g = nI (waX n r x' c) := w5
    obtain ⟨q4, q5⟩ := hP.2.2.2.2 c c1
    have q4 : x'.2.1 27 c = nI (bgX n r x' c) := q4
    have q5 : x'.2.1 28 c = nI (bgX n r x' c + waX n r x' c) := q5
    have hp := packX_le (n := n) (r := r) (x := x')
    have f1 : gA x' 26 (nI c) = nI g := by rw [gA_n _ _ (by omega), (hP.2.1.2.1 c c1).2.2, w4]
    have f2 : gA x' 23 (nI g) = nI (waX n r x' c) := by rw [gA_n _ _ (by omega), w5]
    have f3 : gA x' 29 (nI i) = nI c := by rw [gA_n _ _ (by omega), hP.2.1.2.2 i hi, c2]
    generalize bgX n r x' c = B at h3 hB q4 q5
    generalize waX n r x' c = w at h3 w1 w2 q5 f2
    have e2 := e
    have eT2 := eT
    refine ⟨fun z => ?_, fun z => ?_, fun z => ?_, fun d0 d1 d2 => ?_⟩
    · rw [z] at h3 ⊢
      unfold wX1_stageOf
      have h3 : wX7_where a b 0 (fun v' y' => Q (if T < B then 0 else if T < B + w then 1 else 2) v' x' y') y := h3
      refine ⟨by rw [e]; exact vin (by omega) (by omega), fun v ev => ?_⟩
      rw [e, f3] at ev
      subst ev
      rw [gA_n _ 27 (by omega), gA_n _ 28 (by omega), q4, q5]
      refine ⟨vin (by omega) (by omega), ⟨fun c4 => ⟨fun c5 => ?_, fun c5 => ?_⟩, fun c4 => ?_⟩⟩ <;> rw [eT, nI_leI (by omega) (by omega)] at c4
      · rw [eT, nI_leI (by omega) (by omega)] at c5
        rw [if_neg (by omega), if_neg (by omega)] at h3; exact h3
      · rw [eT, nI_leI (by omega) (by omega)] at c5
        rw [if_neg (by omega), if_pos (by omega)] at h3; exact h3
      · rw [if_pos (by omega)] at h3; exact h3
    · rw [z] at h3 ⊢
      unfold wX1_readerHas
      have h3 : wX7_where a b 1 (fun v' y' => Q (if B + w ≤ T then nI T else if B < T + w then nI (B + w) else nI (T + w)) v' x' y') y := h3
      refine ⟨by rw [e]; exact vin (by omega) (by omega), fun v ev => ?_⟩
      rw [e, f3] at ev
      subst ev
      rw [gA_n _ 27 (by omega), gA_n _ 28 (by omega), q4, q5, f1, f2]
      refine ⟨vin (by omega) (by omega), ⟨fun c4 => ⟨vin (by omega) (by omega), fun v4 e4 => ⟨fun c5 => ?_, fun c5 => ?_⟩⟩, fun c4 => ?_⟩⟩ <;> rw [eT, nI_ltI (by omega) (by omega)] at c4
      · rw [e4, eT, nI_add, nI_ltI (by omega) (by omega)] at c5
        rw [if_neg (by omega), if_pos c5] at h3; exact h3
      · rw [eT, nI_add] at e4
        rw [e4] at c5 ⊢
        rw [nI_ltI (by omega) (by omega)] at c5
        rw [if_neg (by omega), if_neg c5] at h3; exact h3
      · rw [if_pos (by omega), ← eT] at h3; exact h3
    · rw [z] at h3 ⊢
      refine ⟨by rw [e]; exact vin (by omega) (by omega), ?_⟩
      rw [show gA x' 29 a = nI c by rw [e]; exact f3]
      exact h3
    · unfold whV at h3; rw [if_neg d0, if_neg d1, if_neg d2] at h3; exact h3
  · exact rbT rfl (bad (fun q => z1 q.2))
